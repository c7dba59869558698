/-! shared: the walk -/
def ShR (E : Nat) (B : Int) (σx σm : xSt) : Prop := σx 7 2 = (E : Int) ∧ σm 113 1 = (E : Int) ∧ σm 113 29 = B ∧ ∀ e : Nat, e < E → σx 103 e = σm 128 e
theorem m_digit {e : Nat} {B : Int} {σ : xSt} (he : e < 6) (h29 : σ 113 29 = B) : f_M_digit (e : Int) σ = if w32 (σ 128 e * 2) < B then some (0, upS σ 128 e (w32 (σ 128 e * 2))) else some (1, upS (upS σ 128 e (w32 (σ 128 e * 2))) 128 e (w32 (w32 (σ 128 e * 2) - B))) := by
  have r1 : ∀ v, upS σ 128 e v 113 29 = B := fun v => h29
  have r2 : ∀ v, upS σ 128 e v 128 e = v := fun v => by rw [upS_rd, if_pos ⟨rfl, rfl⟩]
  have b : 0 ≤ (e : Int) ∧ (e : Int) < 6 := by omega
  unfold f_M_digit f_M_shareBelow
  rw [if_pos b, if_pos b, Int.toNat_natCast, xlet_s, if_pos b, r1, xbR_s, r2]
  by_cases h : w32 (σ 128 e * 2) < B
  · rw [if_pos h, if_pos h]
  · rw [if_neg h, if_neg h, if_pos b, xbR_s, if_pos b, xlet_s]
theorem m_fnd {kk : Int → Int → Int → xSt → Option (Int × xSt)} {E : Nat} {B l1 l3 l4 F : Int} (h6 : E ≤ 6) (hF : F ≠ -1) : ∀ (j n e : Nat) (l3 : Int) (σ : xSt), e + j = E → j < n → σ 113 1 = (E : Int) → σ 113 29 = B →
    ∃ σ', f_M_shared_106 kk n l1 l3 l4 F (e : Int) σ = some (F, σ') ∧ σ' 111 48 = w32 (l4 + 1) ∧ ∀ a q, a ≠ 128 → (a = 111 → q ≠ 48) → σ' a q = σ a q := by
  intro j
  induction j with
  | zero =>
    intro n e l3 σ h1 h2 hE hB
    obtain ⟨n, rfl⟩ : ∃ n2, n = n2 + 1 := ⟨n - 1, by omega⟩
    obtain rfl : e = E := by omega
    refine ⟨upS σ 111 48 (w32 (l4 + 1)), ?_, rfl, fun a q _ hq => by rw [upS_rd, if_neg (fun z => hq z.1 z.2)]⟩
    rw [f_M_shared_106.eq_2]
    unfold f_M_ends
    rw [xbR_s, hE, if_neg (by omega), if_neg hF, xlet_s]
  | succ j ih =>
    intro n e l3 σ h1 h2 hE hB
    obtain ⟨n, rfl⟩ : ∃ n2, n = n2 + 1 := ⟨n - 1, by omega⟩
    have b3 : e < 100000 := by omega
    have b4 : (e : Int) < (E : Int) := by omega
    rw [f_M_shared_106.eq_2]
    unfold f_M_ends
    rw [xbR_s, hE, if_pos b4, m_digit (by omega) hB]
    by_cases h : w32 (σ 128 e * 2) < B
    · obtain ⟨σ', g1, g2, g3⟩ := ih n (e + 1) l3 (upS σ 128 e (w32 (σ 128 e * 2))) (by omega) (by omega) hE hB
      refine ⟨σ', ?_, g2, fun a q h1 h2 => by rw [g3 a q h1 h2, upS_rd, if_neg (fun z => h1 z.1)]⟩
      rw [if_pos h, xbW_s, if_pos rfl, w32_n1 b3, xlet_s]
      exact g1
    · obtain ⟨σ', g1, g2, g3⟩ := ih n (e + 1) l3 (upS (upS σ 128 e (w32 (σ 128 e * 2))) 128 e (w32 (w32 (σ 128 e * 2) - B))) (by omega) (by omega) hE hB
      refine ⟨σ', ?_, g2, fun a q h1 h2 => by rw [g3 a q h1 h2, upS_rd, if_neg (fun z => h1 z.1), upS_rd, if_neg (fun z => h1 z.1)]⟩
      rw [if_neg h, xbW_s, if_neg (by decide), if_neg hF, w32_n1 b3, xlet_s]
      exact g1
theorem in_lock {kx : Int → Int → Int → Int → xSt → Option (Int × xSt)} {km : Int → Int → Int → xSt → Option (Int × xSt)} {E : Nat} {B l1 l4 : Int} (h6 : E ≤ 6) : ∀ (j n m e : Nat) (l5 : Int) (σx σm : xSt), e + j = E → j < n → j < m → ShR E B σx σm →
    (∃ v σx' σm', f_Shares_shareOut_98 kx n l1 B l5 l4 (e : Int) σx = some (v, σx') ∧ f_M_shared_106 km m l1 l5 l4 (-1) (e : Int) σm = some (v, σm') ∧ σx' 102 1 = σm' 111 48 ∧ (∀ a q, a ≠ 103 → a ≠ 102 → σx' a q = σx a q) ∧ ∀ a q, a ≠ 128 → (a = 111 → q ≠ 48) → σm' a q = σm a q) ∨
    (∃ l5' σx' σm', f_Shares_shareOut_98 kx n l1 B l5 l4 (e : Int) σx = kx l1 B l5' (w32 (l4 + 1)) σx' ∧ f_M_shared_106 km m l1 l5 l4 (-1) (e : Int) σm = km l1 l5' (w32 (l4 + 1)) σm' ∧ ShR E B σx' σm' ∧ (∀ a q, a ≠ 103 → σx' a q = σx a q) ∧ ∀ a q, a ≠ 128 → σm' a q = σm a q) := by
  intro j
  induction j with
  | zero =>
    intro n m e l5 σx σm h1 h2 h3 hR
    obtain ⟨n, rfl⟩ : ∃ n2, n = n2 + 1 := ⟨n - 1, by omega⟩
    obtain ⟨m, rfl⟩ : ∃ n2, m = n2 + 1 := ⟨m - 1, by omega⟩
    obtain rfl : e = E := by omega
    obtain ⟨r1, r2, r3, r4⟩ := hR
    refine Or.inr ⟨l5, σx, σm, ?_, ?_, ⟨r1, r2, r3, r4⟩, fun _ _ _ => rfl, fun _ _ _ => rfl⟩
    · rw [f_Shares_shareOut_98.eq_2, r1, if_neg (by omega), xlet_s]
    · rw [f_M_shared_106.eq_2]
      unfold f_M_ends
      rw [xbR_s, r2, if_neg (by omega), if_pos rfl, xlet_s]
  | succ j ih =>
    intro n m e l5 σx σm h1 h2 h3 hR
    obtain ⟨n, rfl⟩ : ∃ n2, n = n2 + 1 := ⟨n - 1, by omega⟩
    obtain ⟨m, rfl⟩ : ∃ n2, m = n2 + 1 := ⟨m - 1, by omega⟩
    obtain ⟨r1, r2, r3, r4⟩ := hR
    have b3 : e < 100000 := by omega
    have b4 : (e : Int) < (E : Int) := by omega
    have b5 : (e : Int) < 6 := by omega
    have b6 : 0 ≤ (e : Int) ∧ (e : Int) < 6 := by omega
    have r0 := r4 e (by omega)
    have rx : ∀ v, upS σx 103 e v 103 e = v := fun v => by rw [upS_rd, if_pos ⟨rfl, rfl⟩]
    rw [f_Shares_shareOut_98.eq_2, r1, if_pos b4, if_pos b5, if_pos b6, if_pos b6, Int.toNat_natCast, xlet_s, if_pos b6, rx, f_M_shared_106.eq_2]
    unfold f_M_ends
    rw [xbR_s, r2, if_pos b4, m_digit (by omega) r3, r0]
    by_cases h : w32 (σm 128 e * 2) < B
    · rw [if_pos h, if_pos h, xlet_s, xbW_s, if_pos rfl, w32_n1 b3, xlet_s]
      have k := ih n m (e + 1) l5 (upS σx 103 e (w32 (σm 128 e * 2))) (upS σm 128 e (w32 (σm 128 e * 2))) (by omega) (by omega) (by omega) ⟨r1, r2, r3, fun q hq => by
        rw [upS_rd, upS_rd]
        by_cases hh : q = e
        · rw [if_pos ⟨rfl, hh⟩, if_pos ⟨rfl, hh⟩]
        · rw [if_neg (fun z => hh z.2), if_neg (fun z => hh z.2)]
          exact r4 q hq⟩
      rcases k with ⟨v, s1, s2, k1, k2, k3, k4, k5⟩ | ⟨v, s1, s2, k1, k2, k3, k4, k5⟩
      · exact Or.inl ⟨v, s1, s2, k1, k2, k3, fun a q u1 u2 => by rw [k4 a q u1 u2, upS_rd, if_neg (fun z => u1 z.1)], fun a q u1 u2 => by rw [k5 a q u1 u2, upS_rd, if_neg (fun z => u1 z.1)]⟩
      · exact Or.inr ⟨v, s1, s2, k1, k2, k3, fun a q u1 => by rw [k4 a q u1, upS_rd, if_neg (fun z => u1 z.1)], fun a q u1 => by rw [k5 a q u1, upS_rd, if_neg (fun z => u1 z.1)]⟩
    · rw [if_neg h, if_neg h, if_pos b6, if_pos b6, xlet_s, xlet_s, xbW_s, if_neg (show ¬ (1 : Int) = 0 by decide), if_pos (show (-1 : Int) = -1 from rfl)]
      simp only [xlet_s]
      by_cases hz : w32 (l5 + -1) < 0
      · rw [if_pos hz, if_pos hz, w32_n1 b3]
        obtain ⟨s2, k2, k3, k5⟩ := m_fnd (kk := km) (l1 := l1) (l3 := 0) (l4 := l4) (F := (e : Int)) h6 (by omega) j m (e + 1) (w32 (l5 + -1)) (upS (upS σm 128 e (w32 (σm 128 e * 2))) 128 e (w32 (w32 (σm 128 e * 2) - B))) (by omega) (by omega) r2 r3
        refine Or.inl ⟨(e : Int), _, s2, rfl, k2, by rw [k3]; rfl, fun a q u1 u2 => ?_, fun a q u1 u2 => ?_⟩
        · rw [upS_rd, if_neg (fun z => u2 z.1), upS_rd, if_neg (fun z => u1 z.1), upS_rd, if_neg (fun z => u1 z.1)]
        · rw [k5 a q u1 u2, upS_rd, if_neg (fun z => u1 z.1), upS_rd, if_neg (fun z => u1 z.1)]
      · rw [if_neg hz, if_neg hz, w32_n1 b3]
        have k := ih n m (e + 1) (w32 (l5 + -1)) (upS (upS σx 103 e (w32 (σm 128 e * 2))) 103 e (w32 (w32 (σm 128 e * 2) - B))) (upS (upS σm 128 e (w32 (σm 128 e * 2))) 128 e (w32 (w32 (σm 128 e * 2) - B))) (by omega) (by omega) (by omega) ⟨r1, r2, r3, fun q hq => by
          rw [upS_rd, upS_rd, upS_rd, upS_rd]
          by_cases hh : q = e
          · rw [if_pos ⟨rfl, hh⟩, if_pos ⟨rfl, hh⟩]
          · rw [if_neg (fun z => hh z.2), if_neg (fun z => hh z.2), if_neg (fun z => hh z.2), if_neg (fun z => hh z.2)]
            exact r4 q hq⟩
        rcases k with ⟨v, s1, s2, k1, k2, k3, k4, k5⟩ | ⟨v, s1, s2, k1, k2, k3, k4, k5⟩
        · exact Or.inl ⟨v, s1, s2, k1, k2, k3, fun a q u1 u2 => by rw [k4 a q u1 u2, upS_rd, if_neg (fun z => u1 z.1), upS_rd, if_neg (fun z => u1 z.1)], fun a q u1 u2 => by rw [k5 a q u1 u2, upS_rd, if_neg (fun z => u1 z.1), upS_rd, if_neg (fun z => u1 z.1)]⟩
        · exact Or.inr ⟨v, s1, s2, k1, k2, k3, fun a q u1 => by rw [k4 a q u1, upS_rd, if_neg (fun z => u1 z.1), upS_rd, if_neg (fun z => u1 z.1)], fun a q u1 => by rw [k5 a q u1, upS_rd, if_neg (fun z => u1 z.1), upS_rd, if_neg (fun z => u1 z.1)]⟩
theorem out_lock {E L : Nat} {B : Int} (h6 : E ≤ 6) (hL : L ≤ 600) : ∀ (j n m i : Nat) (l5 : Int) (σx σm : xSt), i + j = L → j < n → j < m → ShR E B σx σm → (∀ k : Nat, k < L → σm 125 k = σx 98 k) → σx 102 1 = σm 111 48 →
    ∃ v σx' σm', f_Shares_shareOut_71 n (L : Int) B l5 (i : Int) σx = some (v, σx') ∧ f_M_shared_82 m (L : Int) l5 (i : Int) σm = some (v, σm') ∧ σx' 102 1 = σm' 111 48 ∧ (∀ a q, a ≠ 103 → a ≠ 102 → σx' a q = σx a q) ∧ ∀ a q, a ≠ 128 → (a = 111 → q ≠ 48) → σm' a q = σm a q := by
  intro j
  induction j with
  | zero =>
    intro n m i l5 σx σm h1 h2 h3 hR hk ht
    obtain ⟨n, rfl⟩ : ∃ n2, n = n2 + 1 := ⟨n - 1, by omega⟩
    obtain ⟨m, rfl⟩ : ∃ n2, m = n2 + 1 := ⟨m - 1, by omega⟩
    refine ⟨-1, σx, σm, ?_, ?_, ht, fun _ _ _ _ => rfl, fun _ _ _ _ => rfl⟩
    · rw [f_Shares_shareOut_71.eq_2, if_neg (by omega)]
    · rw [f_M_shared_82.eq_2, if_neg (by omega)]
  | succ j ih =>
    intro n m i l5 σx σm h1 h2 h3 hR hk ht
    obtain ⟨n, rfl⟩ : ∃ n2, n = n2 + 1 := ⟨n - 1, by omega⟩
    obtain ⟨m, rfl⟩ : ∃ n2, m = n2 + 1 := ⟨m - 1, by omega⟩
    have b1 : (i : Int) < (L : Int) := by omega
    have b2 : (i : Int) < 600 := by omega
    have b3 : 0 ≤ (i : Int) ∧ (i : Int) < 600 := by omega
    have b4 : 0 ≤ (i : Int) ∧ (i : Int) < 2600 := by omega
    have b5 : i < 100000 := by omega
    have k := in_lock (kx := fun z0 z1 z2 z3 sz => f_Shares_shareOut_71 n z0 z1 z2 z3 sz) (km := fun z0 z1 z2 sz => f_M_shared_82 m z0 z1 z2 sz) (B := B) (l1 := (L : Int)) (l4 := (i : Int)) h6 E 1000000 1000000 0 (w32 (w32 (2 * l5) + σx 98 i)) σx σm (by omega) (by omega) (by omega) hR
    rw [c0n, w32_n1 b5] at k
    rw [f_Shares_shareOut_71.eq_2, if_pos b1, if_pos b2, if_pos b3, Int.toNat_natCast, xlet_s, f_M_shared_82.eq_2, if_pos b1, if_pos b4, Int.toNat_natCast, hk i (by omega), xlet_s]
    rcases k with ⟨v, s1, s2, k1, k2, k3, k4, k5⟩ | ⟨v, s1, s2, k1, k2, k3, k4, k5⟩
    · exact ⟨v, s1, s2, k1, k2, k3, k4, k5⟩
    · rw [k1, k2]
      obtain ⟨w, t1, t2, q1, q2, q3, q4, q5⟩ := ih n m (i + 1) v s1 s2 (by omega) (by omega) (by omega) k3 (fun k hk2 => by rw [k4 98 k (by decide), k5 125 k (by decide)]; exact hk k hk2) (by rw [k4 102 1 (by decide), k5 111 48 (by decide)]; exact ht)
      exact ⟨w, t1, t2, q1, q2, q3, fun a q u1 u2 => (q4 a q u1 u2).trans (k4 a q u1), fun a q u1 u2 => (q5 a q u1 u2).trans (k5 a q u1)⟩
/-- the first END that has all -/
theorem x_out10 {E L : Nat} {B : Int} {fa : Nat → Int} (h6 : E ≤ 6) : ∀ (j n e : Nat) (σ : xSt), e + j = E → j < n → σ 7 2 = (E : Int) → (∀ i : Nat, i < E → σ 14 i = fa i) → (∀ i : Nat, i < e → σ 103 i = fa i ∧ fa i ≠ B) →
    (∃ e0 : Nat, e0 < E ∧ fa e0 = B ∧ (∀ i : Nat, i < e0 → fa i ≠ B) ∧ ∃ σ', f_Shares_shareOut_10 n (L : Int) B (e : Int) σ = some ((e0 : Int), σ') ∧ σ' 102 1 = 0 ∧ ∀ a q, a ≠ 103 → a ≠ 102 → σ' a q = σ a q) ∨
    ((∀ i : Nat, i < E → fa i ≠ B) ∧ ∃ σ', f_Shares_shareOut_10 n (L : Int) B (e : Int) σ = f_Shares_shareOut_71 1000000 (L : Int) B 0 0 σ' ∧ (∀ i : Nat, i < E → σ' 103 i = fa i) ∧ ∀ a q, a ≠ 103 → σ' a q = σ a q) := by
  intro j
  induction j with
  | zero =>
    intro n e σ h1 h2 hE ha h3
    obtain ⟨n, rfl⟩ : ∃ n2, n = n2 + 1 := ⟨n - 1, by omega⟩
    obtain rfl : e = E := by omega
    refine Or.inr ⟨fun i hi => (h3 i hi).2, σ, ?_, fun i hi => (h3 i hi).1, fun _ _ _ => rfl⟩
    rw [f_Shares_shareOut_10.eq_2, hE, if_neg (by omega)]
  | succ j ih =>
    intro n e σ h1 h2 hE ha h3
    obtain ⟨n, rfl⟩ : ∃ n2, n = n2 + 1 := ⟨n - 1, by omega⟩
    have b3 : e < 100000 := by omega
    have b4 : (e : Int) < (E : Int) := by omega
    have b5 : (e : Int) < 6 := by omega
    have b6 : 0 ≤ (e : Int) ∧ (e : Int) < 6 := by omega
    have rx : ∀ v, upS σ 103 e v 103 e = v := fun v => by rw [upS_rd, if_pos ⟨rfl, rfl⟩]
    rw [f_Shares_shareOut_10.eq_2, hE, if_pos b4, if_pos b5, x_above hE h6 (by omega), xbR_s, ha e (by omega), if_pos b6, Int.toNat_natCast, xlet_s, if_pos b6, rx]
    by_cases h : fa e = B
    · rw [if_pos h, xlet_s]
      exact Or.inl ⟨e, by omega, h, fun i hi => (h3 i hi).2, _, rfl, rfl, fun a q u1 u2 => by rw [upS_rd, if_neg (fun z => u2 z.1), upS_rd, if_neg (fun z => u1 z.1)]⟩
    · rw [if_neg h, w32_n1 b3, xlet_s]
      have k := ih n (e + 1) (upS σ 103 e (fa e)) (by omega) (by omega) hE ha (fun i hi => by
        rw [upS_rd]
        by_cases hh : i = e
        · rw [if_pos ⟨rfl, hh⟩, hh]
          exact ⟨rfl, h⟩
        · rw [if_neg (fun z => hh z.2)]
          exact h3 i (by omega))
      rcases k with ⟨e0, k1, k2, k3, s1, k4, k5, k6⟩ | ⟨k1, s1, k2, k3, k4⟩
      · exact Or.inl ⟨e0, k1, k2, k3, s1, k4, k5, fun a q u1 u2 => by rw [k6 a q u1 u2, upS_rd, if_neg (fun z => u1 z.1)]⟩
      · exact Or.inr ⟨k1, s1, k2, k3, fun a q u1 => by rw [k4 a q u1, upS_rd, if_neg (fun z => u1 z.1)]⟩
theorem m_all2 {E : Nat} {B : Int} {fa : Nat → Int} {σ : xSt} (h6 : E ≤ 6) (hE : σ 113 1 = (E : Int)) (hB : σ 113 29 = B) (ha : ∀ i : Nat, i < E → σ 113 (28 + 2 * i) = fa i) : ∀ (j n e : Nat), e + j = E → j < n → (∀ i : Nat, i < e → fa i ≠ B) →
    (∃ e0 : Nat, e0 < E ∧ fa e0 = B ∧ (∀ i : Nat, i < e0 → fa i ≠ B) ∧ f_M_all_2 n (e : Int) σ = some (e0 : Int)) ∨ ((∀ i : Nat, i < E → fa i ≠ B) ∧ f_M_all_2 n (e : Int) σ = some (-1)) := by
  intro j
  induction j with
  | zero =>
    intro n e h1 h2 h3
    obtain ⟨n, rfl⟩ : ∃ n2, n = n2 + 1 := ⟨n - 1, by omega⟩
    obtain rfl : e = E := by omega
    refine Or.inr ⟨h3, ?_⟩
    rw [f_M_all_2.eq_2]
    unfold f_M_ends
    rw [xbR_s, hE, if_neg (by omega)]
  | succ j ih =>
    intro n e h1 h2 h3
    obtain ⟨n, rfl⟩ : ∃ n2, n = n2 + 1 := ⟨n - 1, by omega⟩
    have b3 : e < 100000 := by omega
    have b4 : (e : Int) < (E : Int) := by omega
    rw [f_M_all_2.eq_2]
    unfold f_M_ends f_M_shareBelow
    rw [xbR_s, hE, if_pos b4, m_shareOf (by omega), xbR_s, xbR_s, hB, ha e (by omega)]
    by_cases h : fa e = B
    · rw [if_pos h]
      exact Or.inl ⟨e, by omega, h, h3, rfl⟩
    · rw [if_neg h, w32_n1 b3, xlet_s]
      exact ih n (e + 1) (by omega) (by omega) (fun i hi => by
        by_cases hh : i = e
        · rw [hh]
          exact h
        · exact h3 i (by omega))
theorem m_out52 {E L : Nat} {fa : Nat → Int} (h6 : E ≤ 6) : ∀ (j n e : Nat) (σ : xSt), e + j = E → j < n → σ 113 1 = (E : Int) → (∀ i : Nat, i < E → σ 113 (28 + 2 * i) = fa i) → (∀ i : Nat, i < e → σ 128 i = fa i) →
    ∃ σ', f_M_shared_52 n (L : Int) (e : Int) σ = f_M_shared_82 1000000 (L : Int) 0 0 σ' ∧ (∀ i : Nat, i < E → σ' 128 i = fa i) ∧ ∀ a q, a ≠ 128 → σ' a q = σ a q := by
  intro j
  induction j with
  | zero =>
    intro n e σ h1 h2 hE ha h3
    obtain ⟨n, rfl⟩ : ∃ n2, n = n2 + 1 := ⟨n - 1, by omega⟩
    obtain rfl : e = E := by omega
    refine ⟨σ, ?_, h3, fun _ _ _ => rfl⟩
    rw [f_M_shared_52.eq_2]
    unfold f_M_ends
    rw [xbR_s, hE, if_neg (by omega)]
  | succ j ih =>
    intro n e σ h1 h2 hE ha h3
    obtain ⟨n, rfl⟩ : ∃ n2, n = n2 + 1 := ⟨n - 1, by omega⟩
    have b3 : e < 100000 := by omega
    have b4 : (e : Int) < (E : Int) := by omega
    have b6 : 0 ≤ (e : Int) ∧ (e : Int) < 6 := by omega
    obtain ⟨σ', k1, k2, k3⟩ := ih n (e + 1) (upS σ 128 e (fa e)) (by omega) (by omega) hE ha (fun i hi => by
      rw [upS_rd]
      by_cases hh : i = e
      · rw [if_pos ⟨rfl, hh⟩, hh]
      · rw [if_neg (fun z => hh z.2)]
        exact h3 i (by omega))
    refine ⟨σ', ?_, k2, fun a q u1 => by rw [k3 a q u1, upS_rd, if_neg (fun z => u1 z.1)]⟩
    rw [f_M_shared_52.eq_2]
    unfold f_M_ends
    rw [xbR_s, hE, if_pos b4, m_shareOf (by omega), xbR_s, ha e (by omega), if_pos b6, Int.toNat_natCast, xlet_s, w32_n1 b3, xlet_s]
    exact k1
