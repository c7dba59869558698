/-! trees of NODES; how deep -/
theorem chain_le {f : Nat → Nat} {N : Int} (hf : ∀ s : Nat, (s : Int) < N → f s < f (s + 1)) : ∀ (j i : Nat), (i + j : Int) ≤ N → f i + j ≤ f (i + j) := by
  intro j
  induction j with
  | zero => exact fun i _ => Nat.le_refl _
  | succ j ih =>
    intro i h
    have h1 := ih i (by omega)
    have h2 := hf (i + j) (by omega)
    have : f (i + (j + 1)) = f (i + j + 1) := rfl
    omega
theorem Sub_lt {σ : xSt} {b w : Nat} : ∀ (d k e m : Nat), Sub σ b w d k e m → k < e ∧ m ≤ d := by
  intro d
  induction d with
  | zero =>
    intro k e m h
    have h1 : e = k + 1 ∧ m = 0 := ⟨h.1, h.2.1⟩
    omega
  | succ d ih =>
    intro k e m h
    rcases h with ⟨h1, h2, -⟩ | ⟨h1, h2, h3, f, g, hf0, hfe, hs, s0, hs0, hs1⟩
    · omega
    · have hc := chain_le (fun s hs2 => (ih _ _ _ (hs s hs2).1).1) (σ (b + 3) (σ (w + 2) k).toNat).toNat 0 (by omega)
      rw [Nat.zero_add, hf0, hfe] at hc
      have h4 := (ih _ _ _ (hs s0 hs0).1).2
      omega
/-- the sons of a NODE lie in it -/
theorem sons_in {f : Nat → Nat} {N : Int} {k e : Nat} (hf : ∀ s : Nat, (s : Int) < N → f s < f (s + 1)) (h0 : f 0 = k + 1) (he : f N.toNat = e) {s : Nat} (hs : (s : Int) < N) : k < f s ∧ f (s + 1) ≤ e := by
  have h1 := chain_le hf s 0 (by omega)
  have h2 := chain_le hf (N.toNat - (s + 1)) (s + 1) (by omega)
  rw [Nat.zero_add] at h1
  rw [show s + 1 + (N.toNat - (s + 1)) = N.toNat by omega, he] at h2
  omega
theorem m_deep15 {σ : xSt} {q : Int → xSt → Option Int} {l1 : Int} {g f : Nat → Nat} {m : Nat} {w : Int} (hw : f_M_whichOf l1 σ = some w) {N : Int} (hN : f_M_sidesOf w σ = some N) (hN6 : N ≤ 6)
    (hnx : ∀ s : Nat, (s : Int) < N → f_M_nextOf l1 (s : Int) σ = some (f s : Int) ∧ q (f s : Int) σ = some (g s : Int) ∧ g s + 1 ≤ m) (hm : m ≤ 10) :
    ∀ (r : Nat) (s a n : Nat), N = (s : Int) + (r : Int) → r < n → a + 1 ≤ m → (a + 1 = m ∨ ∃ j : Nat, s ≤ j ∧ (j : Int) < N ∧ g j + 1 = m) → f_M_deepOf_15 q n l1 (a : Int) (s : Int) σ = some (m : Int) := by
  intro r
  induction r with
  | zero =>
    intro s a n hr hn ha hor
    obtain ⟨n, rfl⟩ : ∃ n2, n = n2 + 1 := ⟨n - 1, by omega⟩
    have ha2 : a + 1 = m := by
      rcases hor with z | ⟨j, z1, z2, -⟩
      · exact z
      · omega
    unfold f_M_deepOf_15
    simp only [hw, hN, xbR]
    have h5 : w32 ((a : Int) + 1) = (m : Int) := (w32_o (by omega) (by omega)).trans (by omega)
    rw [if_neg (by omega), h5]
  | succ r ih =>
    intro s a n hr hn ha hor
    obtain ⟨n, rfl⟩ : ∃ n2, n = n2 + 1 := ⟨n - 1, by omega⟩
    obtain ⟨h1, h2, h3⟩ := hnx s (by omega)
    unfold f_M_deepOf_15
    simp only [hw, hN, xbR, h1, h2, xlet]
    rw [if_pos (by omega), w32_o (x := (s : Int) + 1) (by omega) (by omega)]
    have e : ((s : Int) + 1) = ((s + 1 : Nat) : Int) := by omega
    rw [e]
    split
    · refine ih (s + 1) (g s) n (by omega) (by omega) h3 ?_
      rcases hor with z | ⟨j, z1, z2, z3⟩
      · omega
      · by_cases hj : j = s
        · subst hj
          exact Or.inl z3
        · exact Or.inr ⟨j, by omega, z2, z3⟩
    · refine ih (s + 1) a n (by omega) (by omega) ha ?_
      rcases hor with z | ⟨j, z1, z2, z3⟩
      · exact Or.inl z
      · by_cases hj : j = s
        · subst hj
          exact Or.inl (by omega)
        · exact Or.inr ⟨j, by omega, z2, z3⟩
/-- how deep: the model's recursion -/
theorem m_deepOf {σ : xSt} (h : Inv0 σ) : ∀ (d n k e m : Nat), Sub σ 7 16 d k e m → (e : Int) ≤ σ 16 0 → d ≤ 6 → d < n → f_M_deepOf n (k : Int) σ = some (m : Int) := by
  obtain ⟨hn, hn0, hn80⟩ := h.nodes
  obtain ⟨ht, ht0, ht3⟩ := h.things
  have leaf : ∀ (n k : Nat), (k : Int) < σ 16 0 → 0 < n → (σ 17 k = 0 ∨ σ 17 k = 1) → f_M_deepOf n (k : Int) σ = some 0 := by
    intro n k hk hn2 h2
    obtain ⟨n, rfl⟩ : ∃ n2, n = n2 + 1 := ⟨n - 1, by omega⟩
    obtain ⟨n1, -, -, -, -⟩ := h.nd (p := (k : Int)) (by omega) (by omega)
    simp only [Int.toNat_natCast] at n1
    show f0_M_deepOf (g_M_deepOf n) (k : Int) σ = _
    unfold f0_M_deepOf
    rw [m_sortOf (by omega) (by omega)]
    simp only [xbR, Int.toNat_natCast]
    rw [if_neg (by omega)]
  intro d
  induction d with
  | zero =>
    intro n k e m hS he _ hd
    obtain ⟨rfl, rfl, h1⟩ := hS
    exact leaf n k (by omega) (by omega) (h1.elim (fun z => Or.inl z.1) (fun z => Or.inr z.1))
  | succ d ih =>
    intro n k e m hS he hd6 hd
    rcases hS with ⟨rfl, rfl, h1⟩ | ⟨h1, h2, h3, f, g, hf0, hfe, hs, s0, hs0, hs1⟩
    · exact leaf n k (by omega) (by omega) (h1.elim (fun z => Or.inl z.1) (fun z => Or.inr z.1))
    · have h1 : σ 17 k = 2 := h1
      have h2 : 0 ≤ σ 18 k := h2
      have h3 : σ 18 k < σ 7 1 := h3
      have hs0 : (s0 : Int) < σ 10 (σ 18 k).toNat := hs0
      have hfe : f (σ 10 (σ 18 k).toNat).toNat = e := hfe
      have hs : ∀ s : Nat, (s : Int) < σ 10 (σ 18 k).toNat → Sub σ 7 16 d (f s) (f (s + 1)) (g s) ∧ σ 19 (f s) = (k : Int) ∧ σ 20 (f s) = (s : Int) ∧ σ 21 (6 * k + s) = (f s : Int) ∧ g s + 1 ≤ m := hs
      obtain ⟨t1, t2, t3, -⟩ := h.th h2 h3
      have hmon := fun s hs2 => (Sub_lt _ _ _ _ (hs s hs2).1).1
      have hke : k < e := by
        have h5 := sons_in hmon hf0 hfe hs0
        have h6 := hmon s0 hs0
        omega
      obtain ⟨n, rfl⟩ : ∃ n2, n = n2 + 1 := ⟨n - 1, by omega⟩
      obtain ⟨n1, n2, n3, -, -⟩ := h.nd (p := (k : Int)) (by omega) (by omega)
      simp only [Int.toNat_natCast] at n1 n2 n3
      have hm10 := (Sub_lt _ _ _ _ (hs s0 hs0).1).2
      show f0_M_deepOf (g_M_deepOf n) (k : Int) σ = _
      unfold f0_M_deepOf
      rw [m_sortOf (by omega) (by omega)]
      simp only [xbR, Int.toNat_natCast]
      rw [if_pos (by omega)]
      refine m_deep15 (f := f) (g := g) (w := σ 18 k) (N := σ 10 (σ 18 k).toNat) (by rw [m_whichOf (by omega) (by omega), Int.toNat_natCast, n2]) (by rw [m_sidesOf h2 (by omega), t1]) t3 (fun s hs2 => ?_) (by omega) (σ 10 (σ 18 k).toNat).toNat 0 0 1000000 (by omega) (by omega) (by omega) (Or.inr ⟨s0, by omega, hs0, hs1⟩)
      obtain ⟨c1, c2, c3, c4, c5⟩ := hs s hs2
      have h5 := sons_in hmon hf0 hfe hs2
      refine ⟨?_, ?_, c5⟩
      · rw [m_nextOf (by omega) (by omega) (by omega) (by omega)]
        simp only [Int.toNat_natCast]
        rw [← n3 s (by omega), c4]
      · exact ih n (f s) (f (s + 1)) (g s) c1 (by omega) (by omega) (by omega)
theorem m_hasWay {σ : xSt} : f_M_hasWay σ = some (if 0 < σ 113 41 then 1 else 0) := by
  unfold f_M_hasWay
  split <;> rfl
theorem sim_deep {n : Nat} : SimR (InvN (n + 1)) (InvN n) f_X_deep f_M_deep := simR0 (fun σ h => by
  obtain ⟨hn, hn0, hn80⟩ := h.nodes
  have h2 : Inv0 (upS σ 111 0 0) := inv_thr h
  unfold f_X_deep f_M_deep
  simp only [m_hasWay, xlet, xbR]
  by_cases hw : 0 < σ 16 0
  · obtain ⟨s1, s2, -⟩ := h2.2.2.1.1.2.2.2.2.2 hw
    have s1 : Sub (upS σ 111 0 0) 7 16 6 0 (σ 16 0).toNat (σ 16 1).toNat := s1
    have s2 : 0 ≤ σ 16 1 := s2
    have e1 := m_deepOf h2 6 60 0 _ _ s1 (by show (((σ 16 0).toNat : Nat) : Int) ≤ σ 16 0; omega) (by omega) (by omega)
    have e2 : (((σ 16 1).toNat : Nat) : Int) = σ 16 1 := by omega
    rw [e2] at e1
    refine ⟨σ 16 1, upS σ 111 0 0, rfl, ?_, h2, rfl⟩
    rw [if_pos (show 0 < upS σ 111 0 0 113 41 by show 0 < σ 113 41; omega), if_neg (by decide)]
    rw [show ((0 : Nat) : Int) = 0 from rfl] at e1
    rw [e1]
  · have e0 : σ 16 1 = 0 := h.2.2.1.1.2.2.2.2.1 (by omega)
    refine ⟨σ 16 1, upS σ 111 0 0, rfl, ?_, h2, rfl⟩
    rw [if_neg (show ¬ 0 < upS σ 111 0 0 113 41 by show ¬ 0 < σ 113 41; omega), if_pos rfl, e0])
