/-! what a copied WAY keeps -/
theorem Sub_copy {σ σ' : xSt} {b w b' w' : Nat} (h1 : σ' b' 1 = σ b 1) (h2 : σ' b' 2 = σ b 2) (hb1 : σ b 1 ≤ 3) (h3 : ∀ k : Nat, k < 3 → σ' (b' + 3) k = σ (b + 3) k) (h36 : ∀ k : Nat, (k : Int) < σ b 1 → σ (b + 3) k ≤ 6)
    (hw : ∀ k : Nat, k < 80 → σ' (w' + 1) k = σ (w + 1) k ∧ σ' (w' + 2) k = σ (w + 2) k ∧ σ' (w' + 3) k = σ (w + 3) k ∧ σ' (w' + 4) k = σ (w + 4) k) (h5 : ∀ k : Nat, k < 480 → σ' (w' + 5) k = σ (w + 5) k) : ∀ d k e m : Nat, e ≤ 80 → Sub σ b w d k e m → Sub σ' b' w' d k e m := by
  intro d
  induction d with
  | zero =>
    intro k e m he h
    have hk := (Sub_lt 0 k e m h).1
    obtain ⟨k1, k2, -, -⟩ := hw k (by omega)
    unfold Sub at h ⊢
    rw [k1, k2, h2]
    exact h
  | succ d ih =>
    intro k e m he h
    have hk := (Sub_lt (d + 1) k e m h).1
    obtain ⟨k1, k2, -, -⟩ := hw k (by omega)
    unfold Sub at h ⊢
    rw [k1, k2, h1, h2]
    rcases h with h | ⟨a1, a2, a3, f, hh, f0, fe, fs, fm⟩
    · exact Or.inl h
    · have k3 := h3 (σ (w + 2) k).toNat (by omega)
      have k6 := h36 (σ (w + 2) k).toNat (by omega)
      refine Or.inr ⟨a1, a2, a3, f, hh, f0, by rw [k3]; exact fe, fun s hs => ?_, by rw [k3]; exact fm⟩
      rw [k3] at hs
      have hin := sons_in (f := f) (N := σ (b + 3) (σ (w + 2) k).toNat) (k := k) (e := e) (fun s hs => (Sub_lt d _ _ _ (fs s hs).1).1) f0 fe hs
      have hlt := (Sub_lt d _ _ _ (fs s hs).1).1
      obtain ⟨g1, g2, g3, g4, g5⟩ := fs s hs
      obtain ⟨-, -, q3, q4⟩ := hw (f s) (by omega)
      rw [q3, q4, h5 (6 * k + s) (by omega)]
      exact ⟨ih _ _ _ (by omega) g1, g2, g3, g4, g5⟩
theorem WayR_copy {σ σ' : xSt} {b w R o b' w' R' o' : Nat} (h1 : σ' b' 1 = σ b 1) (h2 : σ' b' 2 = σ b 2) (hb1 : σ b 1 ≤ 3) (h3 : ∀ k : Nat, k < 3 → σ' (b' + 3) k = σ (b + 3) k) (h36 : ∀ k : Nat, (k : Int) < σ b 1 → σ (b + 3) k ≤ 6)
    (hw0 : σ' w' 0 = σ w 0) (hw1 : σ' w' 1 = σ w 1) (hw : ∀ k : Nat, k < 80 → σ' (w' + 1) k = σ (w + 1) k ∧ σ' (w' + 2) k = σ (w + 2) k ∧ σ' (w' + 3) k = σ (w + 3) k ∧ σ' (w' + 4) k = σ (w + 4) k) (h5 : ∀ k : Nat, k < 480 → σ' (w' + 5) k = σ (w + 5) k)
    (hR : ∀ k : Nat, 41 ≤ k → k < 682 → σ' R' (o' + k) = σ R (o + k)) (h : WayR σ b w R o) : WayR σ' b' w' R' o' := by
  have hR2 : ∀ c d : Nat, 41 ≤ c → c + d < 682 → σ' R' (o' + c + d) = σ R (o + c + d) := fun c d hc hcd => by
    rw [Nat.add_assoc, Nat.add_assoc]
    exact hR (c + d) (by omega) hcd
  have hR3 : ∀ c d e : Nat, 41 ≤ c → c + d + e < 682 → σ' R' (o' + c + d + e) = σ R (o + c + d + e) := fun c d e hc hcd => by
    have := hR2 c (d + e) (by omega) (by omega)
    rw [← Nat.add_assoc, ← Nat.add_assoc] at this
    exact this
  obtain ⟨t1, t2, t3, t4, t5, t6⟩ := h
  unfold WayR
  rw [hw0, hw1, hR 41 (by omega) (by omega)]
  refine ⟨t1, t2, t3, fun k hk => ?_, t5, fun hk => ?_⟩
  · have hk80 : k < 80 := by omega
    obtain ⟨u1, u2, u3, u4, u5⟩ := t4 k hk
    obtain ⟨k1, k2, -, -⟩ := hw k hk80
    unfold NdR
    rw [k1, k2, h1, h2, hR2 42 (8 * k) (by omega) (by omega), hR2 43 (8 * k) (by omega) (by omega)]
    refine ⟨u1, u2, fun s hs => ?_, fun s hs => ?_, u5⟩
    · rw [h5 (6 * k + s) (by omega), hR3 44 (8 * k) s (by omega) (by omega)]
      exact u3 s hs
    · rw [h5 (6 * k + s) (by omega)]
      rcases u4 s hs with ⟨v1, v2⟩ | v1
      · refine Or.inl ⟨v1, ?_⟩
        rcases u5 with ⟨z, -⟩ | ⟨z, -⟩ | ⟨-, z1, z2⟩
        · omega
        · omega
        · rw [h3 _ (by omega)]
          exact v2
      · exact Or.inr v1
  · obtain ⟨v1, v2, v3⟩ := t6 hk
    obtain ⟨-, -, q3, -⟩ := hw 0 (by omega)
    refine ⟨Sub_copy h1 h2 hb1 h3 h36 hw h5 6 0 _ _ (by omega) v1, v2, ?_⟩
    rw [q3]
    exact v3
