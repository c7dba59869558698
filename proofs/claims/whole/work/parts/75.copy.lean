/-! what a copied table keeps -/
theorem psum_cg {f g : Nat → Int} : ∀ n : Nat, (∀ k : Nat, k < n → f k = g k) → psum f n = psum g n := by
  intro n
  induction n with
  | zero => exact fun _ => rfl
  | succ n ih =>
    intro h
    have e1 : psum f (n + 1) = psum f n + f n := rfl
    have e2 : psum g (n + 1) = psum g n + g n := rfl
    rw [e1, e2, ih (fun k hk => h k (by omega)), h n (by omega)]
theorem TabR_copy {σ σ' : xSt} {b R o N on b' R' o' N' on' : Nat} {op : Int} (h0 : ∀ k : Nat, k < 4 → σ' b' k = σ b k) (h1 : ∀ k : Nat, k < 3 → σ' (b' + 1) k = σ (b + 1) k ∧ ((k : Int) < σ b 1 → σ' (b' + 2) k = σ (b + 2) k) ∧ σ' (b' + 3) k = σ (b + 3) k ∧ σ' (b' + 4) k = σ (b + 4) k)
    (h5 : ∀ k : Nat, k < 18 → σ' (b' + 5) k = σ (b + 5) k) (h6 : ∀ k : Nat, k < 6 → σ' (b' + 6) k = σ (b + 6) k ∧ σ' (b' + 7) k = σ (b + 7) k ∧ σ' (b' + 8) k = σ (b + 8) k) (hR : ∀ k : Nat, k < 41 → σ' R' (o' + k) = σ R (o + k)) (hN : ∀ k : Nat, k < 9 → σ' N' (on' + k) = σ N (on + k)) (h : TabR σ b R o N on op) : TabR σ' b' R' o' N' on' op := by
  have hR2 : ∀ c d : Nat, c + d < 41 → σ' R' (o' + c + d) = σ R (o + c + d) := fun c d hcd => by
    rw [Nat.add_assoc, Nat.add_assoc]
    exact hR (c + d) hcd
  have hR3 : ∀ c d e : Nat, c + d + e < 41 → σ' R' (o' + c + d + e) = σ R (o + c + d + e) := fun c d e hcd => by
    have := hR2 c (d + e) (by omega)
    rw [← Nat.add_assoc, ← Nat.add_assoc] at this
    exact this
  have hR0 : σ' R' o' = σ R o := hR 0 (by omega)
  obtain ⟨t1, t2, t3, t4, t5, t6, t7, t8, t9, t10, t11, t12, t13, t14⟩ := h
  unfold TabR
  rw [h0 0 (by omega), h0 1 (by omega), h0 2 (by omega), h0 3 (by omega), hR 3 (by omega), hR0, hR 1 (by omega), hR 40 (by omega)]
  refine ⟨t1, t2, t3, t4, t5, t6, t7, t8, t9, t10, t11, t12, fun t ht => ?_, fun e he => ?_⟩
  · have ht3 : t < 3 := by omega
    obtain ⟨u1, u2, u3, u4, u5, u6, u7, u8, u9, u10, u11, u12⟩ := t13 t ht
    obtain ⟨k1, k2_, k3, k4⟩ := h1 t ht3
    have k2 := k2_ ht
    have k5 : ∀ s : Nat, s < 6 → σ' (b' + 5) (6 * t + s) = σ (b + 5) (6 * t + s) := fun s hs => h5 (6 * t + s) (by omega)
    have k50 : σ' (b' + 5) (6 * t) = σ (b + 5) (6 * t) := k5 0 (by omega)
    have k51 : σ' (b' + 5) (6 * t + 1) = σ (b + 5) (6 * t + 1) := k5 1 (by omega)
    have kp : psum (fun s => σ' (b' + 5) (6 * t + s)) (σ (b + 3) t).toNat = psum (fun s => σ (b + 5) (6 * t + s)) (σ (b + 3) t).toNat := psum_cg _ (fun s hs => k5 s (by omega))
    unfold ThR
    rw [k1, k2, k3, k4, hR2 4 (8 * t) (by omega), hR2 5 (8 * t) (by omega), hR 40 (by omega), hN t (by omega), k50, k51, kp]
    refine ⟨u1, u2, u3, u4, u5, u6, fun s hs => ?_, u8, u9, u10, u11, u12⟩
    rw [k5 s (by omega), hR3 6 (8 * t) s (by omega)]
    exact u7 s hs
  · have he6 : e < 6 := by omega
    obtain ⟨u1, u2, u3, u4, u5, u6⟩ := t14 e he
    obtain ⟨k6, k7, k8⟩ := h6 e he6
    have hn : σ' N' (on' + 3 + e) = σ N (on + 3 + e) := by
      rw [Nat.add_assoc, Nat.add_assoc]
      exact hN (3 + e) (by omega)
    unfold EnR
    rw [k6, k7, k8, hR2 28 (2 * e) (by omega), hR2 29 (2 * e) (by omega), hn]
    exact ⟨u1, u2, u3, u4, u5, u6⟩
theorem Sen_lt {σ : xSt} {q R o : Nat} {en : Int} : ∀ n lo hi : Nat, Sen σ q R o en n lo hi → lo < hi := by
  intro n
  induction n with
  | zero => exact fun _ _ h => h.elim
  | succ n ih =>
    intro lo hi h
    obtain ⟨i, rfl, h⟩ := h
    rcases h with ⟨-, -, a3, -⟩ | ⟨-, m, a2, a3, -⟩ | ⟨h, -⟩
    · have := ih lo i a3
      omega
    · have := ih lo m a2
      have := ih m i a3
      omega
    · omega
theorem Sen_copy {σ σ' : xSt} {q R o q' R' o' : Nat} {en : Int} (h1 : ∀ k : Nat, k < 40 → σ' (q' + 1) k = σ (q + 1) k ∧ σ' (q' + 2) k = σ (q + 2) k ∧ σ' (q' + 3) k = σ (q + 3) k) (hR : ∀ k : Nat, 682 ≤ k → k < 924 → σ' R' (o' + k) = σ R (o + k)) : ∀ n lo hi : Nat, hi ≤ 40 → Sen σ q R o en n lo hi → Sen σ' q' R' o' en n lo hi := by
  have hR2 : ∀ c d : Nat, 682 ≤ c → c + d < 924 → σ' R' (o' + c + d) = σ R (o + c + d) := fun c d hc hcd => by
    rw [Nat.add_assoc, Nat.add_assoc]
    exact hR (c + d) (by omega) hcd
  intro n
  induction n with
  | zero => exact fun _ _ _ h => h
  | succ n ih =>
    intro lo hi hhi h
    obtain ⟨i, rfl, h⟩ := h
    obtain ⟨k1, k2, k3⟩ := h1 i (by omega)
    refine ⟨i, rfl, ?_⟩
    rw [k1, k2, k3, hR2 684 (4 * i) (by omega) (by omega), hR2 685 (4 * i) (by omega) (by omega), hR2 686 (4 * i) (by omega) (by omega), hR2 687 (4 * i) (by omega) (by omega)]
    rcases h with ⟨a1, a2, a3, a4⟩ | ⟨a1, m, a2, a3, a4⟩ | h
    · exact Or.inl ⟨a1, a2, ih lo i (by omega) a3, a4⟩
    · refine Or.inr (Or.inl ⟨a1, m, ih lo m ?_ a2, ih m i (by omega) a3, a4⟩)
      have := Sen_lt n m i a3
      omega
    · exact Or.inr (Or.inr h)
theorem SentR_copy {σ σ' : xSt} {b q R o b' q' R' o' : Nat} (hb : σ' b' 2 = σ b 2) (h0 : σ' q' 0 = σ q 0) (h01 : σ' q' 1 = σ q 1) (h1 : ∀ k : Nat, k < 40 → σ' (q' + 1) k = σ (q + 1) k ∧ σ' (q' + 2) k = σ (q + 2) k ∧ σ' (q' + 3) k = σ (q + 3) k) (hR : ∀ k : Nat, 682 ≤ k → k < 924 → σ' R' (o' + k) = σ R (o + k)) (h : SentR σ b q R o) : SentR σ' b' q' R' o' := by
  obtain ⟨s1, s2, s3⟩ := h
  unfold SentR
  rw [hb, h0, h01, hR 682 (by omega) (by omega), hR 683 (by omega) (by omega)]
  refine ⟨s1, s2, ?_⟩
  rcases s3 with s3 | ⟨u1, u2, u3, u4, u5, u6⟩
  · exact Or.inl s3
  · exact Or.inr ⟨u1, u2, u3, u4, u5, Sen_copy h1 hR 40 0 _ (by omega) u6⟩
