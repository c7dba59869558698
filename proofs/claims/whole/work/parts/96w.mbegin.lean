/-! TOKENS: the model's begin -/
theorem m_begin {τ : xSt} (h : Inv0 τ) (lim : Nat) : ∃ (L τ' : xSt) (n : Nat), τ 111 2 = (n : Int) ∧ f_M_lay (upS τ 111 0 0) = some L ∧ Fr s_M_lay (upS τ 111 0 0) L ∧ Inv0 L ∧ L 111 22 ≠ 0 ∧ f_M_begin (lim : Int) τ = some τ' ∧ TapM (τ 112) n τ' ∧ τ' 111 4 = (lim : Int) ∧ MTok (τ 112) n lim τ' 0 ∧ τ' 111 10 = 0 ∧ τ' 111 2 = 0 ∧ ∀ a k, (a = 111 → k ≠ 2 ∧ k ≠ 3 ∧ k ≠ 4 ∧ k ≠ 5 ∧ k ≠ 6 ∧ k ≠ 7 ∧ k ≠ 8 ∧ k ≠ 9 ∧ k ≠ 10 ∧ k ≠ 12) → τ' a k = L a k := by
  obtain ⟨L, l1, l2, l3, l4, -⟩ := lay_ok (inv_thr (v := 0) h)
  obtain ⟨t1, t2, t3, t4⟩ := h.1
  obtain ⟨n, hn⟩ : ∃ n : Nat, τ 111 2 = (n : Int) := ⟨(τ 111 2).toNat, by omega⟩
  have n640 : n ≤ 640 := by omega
  have e2 : L 111 2 = (n : Int) := by rw [l2 111 2 rfl, upS_nk (by decide), hn]
  have e112 : ∀ k, L 112 k = τ 112 k := fun k => by rw [l2 112 k rfl, upS_ne (by decide)]
  obtain ⟨s, hs⟩ : ∃ s, s = upS (upS (upS (upS (upS L 111 2 0) 111 3 (n : Int)) 111 4 (lim : Int)) 111 10 0) 111 5 0 := ⟨_, rfl⟩
  have fs : ∀ a k, (a = 111 → k ≠ 2 ∧ k ≠ 3 ∧ k ≠ 4 ∧ k ≠ 5 ∧ k ≠ 10) → s a k = L a k := fun a k z => by
    rw [hs, upS_rd, if_neg (fun y => (z y.1).2.2.2.1 y.2), upS_rd, if_neg (fun y => (z y.1).2.2.2.2 y.2), upS_rd, if_neg (fun y => (z y.1).2.2.1 y.2), upS_rd, if_neg (fun y => (z y.1).2.1 y.2), upS_rd, if_neg (fun y => (z y.1).1 y.2)]
  have s3 : s 111 3 = (n : Int) := by rw [hs, upS_nk (by decide), upS_nk (by decide), upS_nk (by decide), upS_eq]
  have s4 : s 111 4 = (lim : Int) := by rw [hs, upS_nk (by decide), upS_nk (by decide), upS_eq]
  have s5 : s 111 5 = ((0 : Nat) : Int) := by rw [hs, upS_eq]; rfl
  have s10 : s 111 10 = 0 := by rw [hs, upS_nk (by decide), upS_eq]
  have s2 : s 111 2 = 0 := by rw [hs, upS_nk (by decide), upS_nk (by decide), upS_nk (by decide), upS_nk (by decide), upS_eq]
  have hT : TapM (τ 112) n s := ⟨n640, s3, fun k hk => ⟨by rw [fs 112 k (fun z => absurd z (by decide)), e112], (t4 k (by omega)).2⟩⟩
  obtain ⟨τ', a1, a2, a3, a4, a5, a6, a7, a8⟩ := m_go hT s4 s5 (Nat.zero_le n)
  refine ⟨L, τ', n, hn, l1, l2, l3, l4, ?_, ⟨n640, ?_, fun k hk => ?_⟩, ?_, ⟨a2, a3, a4, a5, a6, a7⟩, ?_, ?_, fun a k z => ?_⟩
  · unfold f_M_begin
    rw [xlet_s, l1, xbR_s]
    unfold f_M_gather
    rw [xlet_s, e2, xlet_s, xbW_s, xlet_s, xlet_s, xlet_s, xlet_s, ← hs, a1, xbR_s]
  · rw [a8 111 3 (fun _ => by decide), s3]
  · rw [a8 112 k (fun z => absurd z (by decide))]
    exact hT.2.2 k hk
  · rw [a8 111 4 (fun _ => by decide), s4]
  · rw [a8 111 10 (fun _ => by decide), s10]
  · rw [a8 111 2 (fun _ => by decide), s2]
  · rw [a8 a k (fun y => ⟨(z y).2.2.2.1, (z y).2.2.2.2.1, (z y).2.2.2.2.2.1, (z y).2.2.2.2.2.2.1, (z y).2.2.2.2.2.2.2.1, (z y).2.2.2.2.2.2.2.2.2⟩), fs a k (fun y => ⟨(z y).1, (z y).2.1, (z y).2.2.1, (z y).2.2.2.1, (z y).2.2.2.2.2.2.2.2.1⟩)]
