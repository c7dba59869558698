/-! WAYS: the call -/
theorem told_p {G M : xSt} (hp : C_told G) (ha : Ag (S_te ++ [(96, [6]), (97, []), (124, [])]) G M) (h1 : M 0 3 = M 111 10) : C_told M := told_ev hp ha.l h1 (by
  have e6 : M 96 6 = G 96 6 := ha 96 6 rfl
  have e97 : ∀ q, M 97 q = G 97 q := fun q => ha 97 q rfl
  have e124 : ∀ q, M 124 q = G 124 q := fun q => ha 124 q rfl
  rw [e6]
  simp only [e97, e124]
  exact hp.2.2.2.1)
theorem m_way49 {n : Nat} (hn : n ≤ 80) : ∀ (j m i : Nat) (σ : xSt), i + j = 8 * n → σ 111 25 = (n : Int) → j < m → ∃ σ', f_M_way_49 m (i : Int) σ = some ((n : Int), σ') ∧ σ' 113 41 = (n : Int) ∧ (∀ q : Nat, i ≤ q → q < 8 * n → σ' 113 (42 + q) = σ 115 q) ∧ (∀ q : Nat, (q < 41 ∨ 41 < q ∧ q < 42 + i ∨ 42 + 8 * n ≤ q) → σ' 113 q = σ 113 q) ∧ ∀ a q, a ≠ 113 → σ' a q = σ a q := by
  intro j
  induction j with
  | zero =>
    intro m i σ h1 h0 h2
    obtain ⟨m, rfl⟩ : ∃ n2, m = n2 + 1 := ⟨m - 1, by omega⟩
    have b1 : ¬ (i : Int) < ((8 * n : Nat) : Int) := by omega
    have e0 : w32 (8 * (n : Int)) = ((8 * n : Nat) : Int) := (w32_o (by omega) (by omega)).trans (by omega)
    refine ⟨upS σ 113 41 (n : Int), ?_, by rw [upS_rd, if_pos ⟨rfl, rfl⟩], fun q a b => by omega, fun q hq => by rw [upS_rd, if_neg (by omega)], fun a q ha => by rw [upS_rd, if_neg (fun z => ha z.1)]⟩
    rw [f_M_way_49.eq_2, h0, e0, if_neg b1, xlet_s, upS_ne (by decide), h0]
  | succ j ih =>
    intro m i σ h1 h0 h2
    obtain ⟨m, rfl⟩ : ∃ n2, m = n2 + 1 := ⟨m - 1, by omega⟩
    have b1 : (i : Int) < ((8 * n : Nat) : Int) := by omega
    have b2 : 0 ≤ (i : Int) ∧ (i : Int) < 640 := by omega
    have b3 : i < 100000 := by omega
    have b4 : 0 ≤ ((42 + i : Nat) : Int) ∧ ((42 + i : Nat) : Int) < 924 := by omega
    have e0 : w32 (8 * (n : Int)) = ((8 * n : Nat) : Int) := (w32_o (by omega) (by omega)).trans (by omega)
    have e1 : w32 (42 + (i : Int)) = ((42 + i : Nat) : Int) := (w32_o (by omega) (by omega)).trans (by omega)
    obtain ⟨σ', k1, k2, k3, k4, k5⟩ := ih m (i + 1) (upS σ 113 (42 + i) (σ 115 i)) (by omega) (by rw [upS_rd, if_neg (by omega), h0]) (by omega)
    refine ⟨σ', ?_, k2, fun q hq hq2 => ?_, fun q hq => ?_, fun a q ha => by rw [k5 a q ha, upS_rd, if_neg (fun z => ha z.1)]⟩
    · rw [f_M_way_49.eq_2, h0, e0, if_pos b1, if_pos b2, e1, if_pos b4, Int.toNat_natCast, Int.toNat_natCast, xlet_s, w32_n1 b3, xlet_s]
      exact k1
    · by_cases he : q = i
      · subst he
        rw [k4 _ (by omega), upS_rd, if_pos ⟨rfl, rfl⟩]
      · rw [k3 q (by omega) hq2, upS_rd, if_neg (by omega)]
    · rw [k4 q (by omega), upS_rd, if_neg (by omega)]
theorem way_lock {σ : xSt} (h : Inv0 σ) : ∃ σ2, f_Tokens_begin (σ 0 1) 600 (upS σ 0 1 0) = some σ2 ∧ (∀ a k, (a < 2 ∨ 5 < a) → σ2 a k = upS σ 0 1 0 a k) ∧ ∀ s : xSt, (∀ a k, 111 ≤ a → (a = 111 → k ≠ 0) → s a k = σ a k) → ∃ τ, (∀ a k, (a = 111 → k < 2 ∨ 12 < k) → τ a k = gLay (σ 111 22) (upS s 111 0 0) a k) ∧ τ 111 2 = 0 ∧
    ((∃ (σ' τ' : xSt) (N m : Nat), f_Way_read σ2 = some (1, σ') ∧ f_M_way s = f_M_way_49 1000000 0 τ' ∧ KpX wyW σ2 σ' ∧ KpM wyV τ τ' ∧ σ' 2 9 = 0 ∧ τ' 111 10 = 0 ∧ σ' 36 0 = (N : Int) ∧ 0 < N ∧ N ≤ 80 ∧ σ' 36 1 = (m : Int) ∧ τ' 111 25 = (N : Int) ∧ (∀ k, k < N → NdX σ' τ' 7 36 k) ∧ Sub σ' 7 36 6 0 N m ∧ σ' 39 0 = -1) ∨
     (∃ σ' τ' : xSt, f_Way_read σ2 = some (0, σ') ∧ f_M_way s = some (w32 ((-1) - (τ' 111 11)), τ') ∧ Flt σ' τ' ∧ KpX wyW σ2 σ' ∧ KpM wyV τ τ')) := by
  obtain ⟨hl, hIG, h22, g7, gc⟩ := lay0 h
  obtain ⟨n, c, σ2, t1, t2, t3, t4, t5, t6⟩ := tok_start h (lim := 600) (by decide)
  have t2 : f_Tokens_begin (σ 0 1) 600 (upS σ 0 1 0) = some σ2 := t2
  refine ⟨σ2, t2, t5, fun s hs => ?_⟩
  obtain ⟨τ, b1, b2, b3, b4, b5⟩ := t6 s hs
  have b1 : f_M_begin 600 s = some τ := b1
  refine ⟨τ, b5, b4, ?_⟩
  obtain ⟨σ3, hσ3⟩ : ∃ σ3, σ3 = upS (upS σ2 36 0 0) 36 1 0 := ⟨_, rfl⟩
  obtain ⟨τ3, hτ3⟩ : ∃ τ3, τ3 = upS τ 111 25 0 := ⟨_, rfl⟩
  have σ3n : ∀ a q, a ≠ 36 → σ3 a q = σ2 a q := fun a q z => by rw [hσ3, upS_ne z, upS_ne z]
  have τ3n : ∀ a q, (a = 111 → q ≠ 25) → τ3 a q = τ a q := fun a q z => by rw [hτ3, upS_rd, if_neg (fun y => z y.1 y.2)]
  have kX0 : KpX wyW σ2 σ3 := fun a q z1 z2 => σ3n a q (fun y => z2 (by unfold wyW; omega))
  have kM0 : KpM wyV τ τ3 := fun a q z1 z2 => τ3n a q (fun y1 y2 => z2 (Or.inr ⟨y1, Or.inl y2⟩))
  have gg : ∀ a q, 111 < a → τ3 a q = gLay (σ 111 22) (upS σ 111 0 0) a q := fun a q z => by
    rw [τ3n a q (by omega), b5 a q (by omega)]
    exact gLay_cg (by rw [upS_ne (by omega), upS_ne (by omega), hs a q (by omega) (by omega)])
  have hX : ∀ a q, 7 ≤ a → a ≤ 15 → σ3 a q = gLay (σ 111 22) (upS σ 111 0 0) a q := fun a q z1 z2 => by
    rw [σ3n a q (by omega), t5 a q (by omega), upS_ne (by omega), gc a q (by omega)]
  have hR : WyR σ3 τ3 (σ 112) n c 0 0 σ3 τ3 := ⟨b2.cg (fun a k z1 z2 => σ3n a k (by omega)) (fun q z1 z2 => τ3n 111 q (fun _ => by omega)) (fun q => τ3n 112 q (fun z => absurd z (by decide))), by rw [σ3n 2 9 (by decide)]; exact t3, by rw [τ3n 111 10 (fun _ => by decide)]; exact b3, KpX.rf, KpM.rf, by rw [hσ3]; rfl, by rw [hτ3]; rfl⟩
  have xr : f_Way_read σ2 = (xbW ((g_Way_readNode 60).1 0 (-1) 0 σ3) fun r2 σ3 => if r2 = 0 then (some (0, σ3)) else (xbW (f_Tokens_isDone σ3) fun r4 σ5 => if r4 = 0 then (some (0, σ5)) else (some (1, σ5)))) := by
    unfold f_Way_read f_Way_clear f_Way_readNode
    rw [xlet_s, xlet_s, xbR_s, hσ3]
  have mr : f_M_way s = (xbW ((g_M_readNode 60).1 0 τ3) fun r3 σ4 => if r3 = 0 then (some (w32 ((-1) - (σ4 111 11)), σ4)) else (if σ4 111 7 = 0 then (f_M_way_49 1000000 0 σ4) else (xbW (f_M_bad 1 σ4) fun r5 σ6 => some (w32 ((-1) - (σ6 111 11)), σ6)))) := by
    unfold f_M_way f_M_readNode
    rw [b1, xbR_s, xlet_s, hτ3]
  rcases node_lock (n := n) (c := c) (d := σ 112) hIG hX (fun q => gg 113 q (by decide)) (fun q => gg 117 q (by decide)) 6 0 rfl 60 60 0 0 0 0 (-1) σ3 τ3 (by decide) (by decide) hR (by decide) (by decide) (by decide) (by rw [hσ3]; rfl) (Nat.le_refl 0) with ⟨σ4, τ4, a1, a2, i', N, m, q', c1, c2, c3, c4, c5, c6, c7, c8⟩ | ⟨σ4, τ4, a1, a2, a3, a4, a5⟩
  · rw [c0n] at a1 a2
    obtain ⟨hL, h9, h10, kX, kM, hx, hm⟩ := c1
    have hqm : q' = m := by
      unfold Mxq at c8
      omega
    have kX4 : KpX wyW σ2 σ4 := kX0.st (fun a q z1 z2 => kX a q z1 z2)
    have kM4 : KpM wyV τ τ4 := kM0.st (fun a q z1 z2 => kM a q z1 z2)
    rw [a1, xbW_s, if_neg (by decide)] at xr
    rw [a2, xbW_s, if_neg (by decide)] at mr
    unfold f_Tokens_isDone at xr
    by_cases hk : σ4 2 6 = 0
    · have hk2 : τ4 111 7 = 0 := hL.hand.endd.mp hk
      rw [if_pos hk, xbW_s, if_neg (by decide)] at xr
      rw [if_pos hk2] at mr
      obtain ⟨-, g1, g2, g3, -⟩ := c2
      exact Or.inl ⟨σ4, τ4, N, m, xr, mr, kX4, kM4, h9, h10, hx, g1, g2, by rw [c7, hqm], hm, fun k hk => c5 k (Nat.zero_le k) hk, c6, g3⟩
    · have hk2 : ¬ τ4 111 7 = 0 := fun z => hk (hL.hand.endd.mpr z)
      obtain ⟨σ', τ', w1, w2, w3, w4, w5, w6⟩ := hL.hand.fail h9 (p := 1) (fun _ => rfl)
      rw [if_neg hk, w1, xbW_s, if_pos rfl, xbW_s, if_pos rfl] at xr
      rw [if_neg hk2, w2, xbW_s] at mr
      exact Or.inr ⟨σ', τ', xr, mr, w3, kX4.fail w5, kM4.bad w6⟩
  · rw [c0n] at a1 a2
    rw [a1, xbW_s, if_pos rfl] at xr
    rw [a2, xbW_s, if_pos rfl] at mr
    exact Or.inr ⟨σ4, τ4, xr, mr, a3, kX0.st (fun a q z1 z2 => a4 a q z1 z2), kM0.st (fun a q z1 z2 => a5 a q z1 z2)⟩
def s_wm : xZ := [(111, [2, 3, 4, 5, 6, 7, 8, 9, 10, 11, 12, 13, 25, 26]), (115, [])]
theorem s_wm_out {a k : Nat} (h : inS s_wm a k = false) : (a = 111 → k < 2 ∨ 13 < k) ∧ ¬ wyV a k := by
  have key : ∀ k : Fin 27, inS s_wm 111 k.val = false → (k.val < 2 ∨ 13 < k.val ∧ k.val < 25) := by decide +kernel
  have h2 : a = 111 → k < 2 ∨ 13 < k ∧ k < 25 ∨ 26 < k := by
    rintro rfl
    rcases Nat.lt_or_ge k 27 with z | z
    · have := key ⟨k, z⟩ h
      have this : k < 2 ∨ 13 < k ∧ k < 25 := this
      omega
    · omega
  refine ⟨fun z => by have := h2 z; omega, ?_⟩
  rintro (y | ⟨y1, y2⟩)
  · subst y
    cases h
  · have := h2 y1
    omega
def s_wf : xZ := [(0, [1, 3]), (2, [4, 5, 6, 7, 8, 9, 10]), (3, []), (4, []), (5, []), (36, [0, 1]), (37, []), (38, []), (39, []), (40, []), (41, [])]
theorem sim_way {n : Nat} : SimW (InvN (n + 1)) (InvN n) f_X_way f_M_way := by
  refine simW0 (fun σ h => ?_)
  obtain ⟨hl, hIG, h22, g7, gc⟩ := lay0 h
  have hT : f_X_takeTape σ = some (σ 0 1, upS σ 0 1 0) := by
    unfold f_X_takeTape
    rw [xlet_s, xlet_s]
  obtain ⟨σ2, t2, t5, lock⟩ := way_lock h
  obtain ⟨_, _, _, c0⟩ := lock σ (fun _ _ _ _ => rfl)
  rcases c0 with ⟨σ', _, N0, m0, a1, _⟩ | ⟨σ', _, a1, _⟩
  · have FJ : Fr s_Way_read σ2 σ' := fr_Way_read a1
    obtain ⟨s1, x1, x2, x3, x4, x5, x6⟩ := x_cway (a0 := 16) (a1 := 36) (by decide) (upS σ' 0 3 (σ' 2 9))
    have hXe : f_X_way σ = some (s1 16 0, s1) := by
      unfold f_X_way
      rw [hT, xbW_s, t2, xbR_s, a1, xbW_s, xlet_s, if_neg (by decide), x1, xbR_s]
    have FX : Fr s_X_way σ s1 := fr_X_way hXe
    have sM : ∀ a k, 111 ≤ a → s1 a k = σ a k := fun a k z => FX a k (inS_lo rfl z)
    have s1n : ∀ a k, (a < 16 ∨ 21 < a) → (a = 0 → k ≠ 3) → s1 a k = σ' a k := fun a k z1 z2 => by
      rw [x6 a k z1, upS_rd, if_neg (fun y => z2 y.1 y.2)]
    obtain ⟨τ, b5, b4, ⟨ρ, τ', N, m, c1, c2, cX, cM, c9, c10, cN, cN0, cN80, cm, cmN, cNd, cS, c39⟩ | ⟨ρ, _, c1, _⟩⟩ := lock s1 (fun a k z1 _ => sM a k z1)
    · rw [a1] at c1
      obtain rfl : σ' = ρ := (Prod.mk.inj (Option.some.inj c1)).2
      obtain ⟨M, m1, m2, m3, m4, m5⟩ := m_way49 cN80 (8 * N) 1000000 0 τ' (by omega) cmN (by omega)
      rw [c0n] at m1
      have s03 : s1 0 3 = 0 := by rw [x6 0 3 (by decide), upS_eq, c9]
      have s01 : s1 0 1 = 0 := by rw [s1n 0 1 (by decide) (fun _ => by decide), FJ 0 1 rfl, t5 0 1 (by decide), upS_eq]
      have F1 : Fr (s_X_way ++ (s_wm ++ [(113, [])])) (gLay (σ 111 22) (upS σ 111 0 0)) (gLay (σ 111 22) (upS s1 111 0 0)) := (gLay_fr (Fr.both FX)).mono rfl
      have F2 : Fr s_wm (gLay (σ 111 22) (upS s1 111 0 0)) τ' := fun a k hk => by
        obtain ⟨y1, y2⟩ := s_wm_out hk
        rw [cM a k (fun y => by have := y1 y; omega) y2, b5 a k (fun y => by have := y1 y; omega)]
      have F3 : Fr [(113, [])] τ' M := fun a k hk => m5 a k (fun y => by
        subst y
        cases hk)
      have F : Fr (s_X_way ++ (s_wm ++ [(113, [])])) (gLay (σ 111 22) (upS σ 111 0 0)) M := Fr.call (Fr.call F1 F2 rfl) F3 rfl
      have Ms : ∀ a k, a ≤ 110 → M a k = s1 a k := fun a k z => by
        rw [m5 a k (by omega), F2 a k (inS_no (fun e he => by
          unfold s_wm at he
          simp only [List.mem_cons, List.not_mem_nil, or_false] at he
          rcases he with rfl | rfl <;> (dsimp only; omega))), gLay_k (fun y => by omega) (fun y => by omega), upS_ne (by omega)]
      have M41 : ∀ k : Nat, (k < 41 ∨ 682 ≤ k) → M 113 k = gLay (σ 111 22) (upS σ 111 0 0) 113 k := fun k hk => by
        rw [m4 k (by omega), F2 113 k rfl]
        exact gLay_cg (by rw [upS_ne (by decide), upS_ne (by decide), sM 113 k (by decide)])
      have M36 : ∀ a k, (7 ≤ a ∧ a ≤ 15 ∨ 22 ≤ a ∧ a ≤ 110) → M a k = σ' a k := fun a k z => by
        rw [Ms a k (by omega), s1n a k (by omega) (fun y => by omega)]
      have e7 : σ' 7 1 = gLay (σ 111 22) (upS σ 111 0 0) 7 1 := by rw [FJ 7 1 rfl, t5 7 1 (by decide), upS_ne (by decide), gc 7 1 (by decide)]
      have h36' : ∀ k : Nat, (k : Int) < σ' 7 1 → σ' 10 k ≤ 6 := fun k hk => by
        have e10 : σ' 10 k = gLay (σ 111 22) (upS σ 111 0 0) 10 k := by rw [FJ 10 k rfl, t5 10 k (by decide), upS_ne (by decide), gc 10 k (by decide)]
        rw [e10]
        rw [e7] at hk
        exact hIG.2.1.1.n3.2 k hk
      have hW36 : WayR M 7 36 113 0 := way_fin (σ := σ') (τ := τ') (n := N) (m := m) (by rw [M36 36 0 (by decide)]; exact cN) cN0 cN80 (by rw [M36 36 1 (by decide)]; exact cm) cNd (fun k => M36 _ k (by decide)) (fun k => M36 _ k (by decide)) (fun k => M36 _ k (by decide)) (fun k => M36 _ k (by decide)) (fun k => M36 _ k (by decide)) m2 (fun q hq => m3 q (Nat.zero_le q) hq) (Sub_rng (b := 7) (w := 36) (fun k => M36 7 k (by decide)) (fun k => M36 10 k (by decide)) h36' 6 0 N m (fun i _ _ => ⟨M36 37 i (by decide), M36 38 i (by decide), fun s _ => M36 41 _ (by decide)⟩) (fun i _ _ => ⟨M36 39 i (by decide), M36 40 i (by decide)⟩) cS) (by rw [M36 39 0 (by decide)]; exact c39)
      have Mc : ∀ a k, 16 ≤ a → a ≤ 21 → M a k = s1 a k := fun a k z1 z2 => Ms a k (by omega)
      have M7 : M 7 1 = gLay (σ 111 22) (upS σ 111 0 0) 7 1 := by rw [M36 7 1 (by decide), e7]
      have hW : WayR M 7 16 113 0 := WayR_copy (σ := M) (σ' := M) (b := 7) (w := 36) (R := 113) (o := 0) (b' := 7) (w' := 16) (R' := 113) (o' := 0) rfl rfl (by rw [M7]; exact hIG.2.1.1.n3.1) (fun _ _ => rfl) (fun k hk => by
        show M 10 k ≤ 6
        rw [M36 10 k (by decide)]
        exact h36' k (by rw [← M36 7 1 (by decide)]; exact hk)) (by rw [Mc 16 0 (by decide) (by decide), x2, upS_ne (by decide), M36 36 0 (by decide)]) (by rw [Mc 16 1 (by decide) (by decide), x3, upS_ne (by decide), M36 36 1 (by decide)]) (fun k hk => by
        obtain ⟨y1, y2, y3, y4⟩ := x4 k hk
        refine ⟨?_, ?_, ?_, ?_⟩
        · show M 17 k = M 37 k
          rw [Mc 17 k (by decide) (by decide), M36 37 k (by decide)]
          exact y1
        · show M 18 k = M 38 k
          rw [Mc 18 k (by decide) (by decide), M36 38 k (by decide)]
          exact y2
        · show M 19 k = M 39 k
          rw [Mc 19 k (by decide) (by decide), M36 39 k (by decide)]
          exact y3
        · show M 20 k = M 40 k
          rw [Mc 20 k (by decide) (by decide), M36 40 k (by decide)]
          exact y4) (fun k hk => by
        show M 21 k = M 41 k
        rw [Mc 21 k (by decide) (by decide), M36 41 k (by decide)]
        exact x5 k hk) (fun _ _ _ => rfl) hW36
      obtain ⟨p1, p2, p3, p4, p5, p6, p7, p8⟩ := hIG
      have m2' : M 111 2 = 0 := by
        rw [m5 111 2 (by decide), cM 111 2 (fun _ => by decide) (fun y => by unfold wyV at y; omega), b4]
      have m01 : M 0 1 = 0 := by rw [Ms 0 1 (by decide), s01]
      obtain ⟨w1, w2, w3⟩ := tws_way p2 p4 h22 (fun a k z => F a k (by
        rcases z with z | z
        · exact inS_no (fun e he => by
            unfold s_X_way s_wm at he
            simp only [List.cons_append, List.nil_append, List.mem_cons, List.not_mem_nil, or_false] at he
            rcases he with rfl | rfl | rfl | rfl | rfl | rfl | rfl | rfl | rfl | rfl | rfl | rfl | rfl | rfl | rfl | rfl | rfl | rfl | rfl | rfl <;> (dsimp only; omega))
        · exact inS_no (fun e he => by
            unfold s_X_way s_wm at he
            simp only [List.cons_append, List.nil_append, List.mem_cons, List.not_mem_nil, or_false] at he
            rcases he with rfl | rfl | rfl | rfl | rfl | rfl | rfl | rfl | rfl | rfl | rfl | rfl | rfl | rfl | rfl | rfl | rfl | rfl | rfl | rfl <;> (dsimp only; omega)))) (F 111 22 rfl) (fun k => F 117 k rfl) M41 hW
      refine ⟨s1 16 0, s1, M, hXe, ?_, ⟨⟨by omega, by omega, by rw [m2', m01], fun k hk => by omega⟩, w1, w2, w3, p5.ag (F.ag rfl), told_p p6 (F.ag rfl) (by rw [Ms 0 3 (by decide), s03, m5 111 10 (by decide), c10]), p7.ag (F.ag rfl), p8.ag (F.ag rfl)⟩, by rw [F 0 7 rfl, g7]⟩
      rw [c2, m1, x2, upS_ne (by decide), cN]
    · rw [a1] at c1
      cases c1
  · have FJ : Fr s_Way_read σ2 σ' := fr_Way_read a1
    obtain ⟨s1, hs1⟩ : ∃ s1, s1 = upS σ' 0 3 (σ' 2 9) := ⟨_, rfl⟩
    have hXe : f_X_way σ = some (w32 ((-1) - (s1 2 10)), s1) := by
      unfold f_X_way
      rw [hT, xbW_s, t2, xbR_s, a1, xbW_s, xlet_s, if_pos rfl, hs1]
    have FX : Fr s_X_way σ s1 := fr_X_way hXe
    have sM : ∀ a k, 111 ≤ a → s1 a k = σ a k := fun a k z => FX a k (inS_lo rfl z)
    have s1n : ∀ a k, (a = 0 → k ≠ 3) → s1 a k = σ' a k := fun a k z2 => by
      rw [hs1, upS_rd, if_neg (fun y => z2 y.1 y.2)]
    have s01 : s1 0 1 = 0 := by rw [s1n 0 1 (fun _ => by decide), FJ 0 1 rfl, t5 0 1 (by decide), upS_eq]
    obtain ⟨τ, b5, b4, ⟨ρ, _, _, _, c1, _⟩ | ⟨ρ, M, c1, c2, ⟨c3, c4⟩, cX, cM⟩⟩ := lock s1 (fun a k z1 _ => sM a k z1)
    · rw [a1] at c1
      cases c1
    · rw [a1] at c1
      obtain rfl : σ' = ρ := (Prod.mk.inj (Option.some.inj c1)).2
      have FS : Fr s_wf σ s1 := Fr.up (Fr.call (Fr.call (Fr.up Fr.rf rfl rfl) (fr_Tokens_begin t2) rfl) (fr_Way_read a1) rfl) hs1 rfl
      have F1 : Fr (s_wf ++ s_wm) (gLay (σ 111 22) (upS σ 111 0 0)) (gLay (σ 111 22) (upS s1 111 0 0)) := (gLay_fr (Fr.both FS)).mono rfl
      have F2 : Fr s_wm (gLay (σ 111 22) (upS s1 111 0 0)) M := fun a k hk => by
        obtain ⟨y1, y2⟩ := s_wm_out hk
        rw [cM a k (fun y => by have := y1 y; omega) y2, b5 a k (fun y => by have := y1 y; omega)]
      have F : Fr (s_wf ++ s_wm) (gLay (σ 111 22) (upS σ 111 0 0)) M := Fr.call F1 F2 rfl
      have m01 : M 0 1 = 0 := by
        rw [F2 0 1 rfl, gLay_k (fun y => by omega) (fun y => by omega), upS_ne (by decide), s01]
      have m03 : M 0 3 = M 111 10 := by
        rw [F2 0 3 rfl, gLay_k (fun y => by omega) (fun y => by omega), upS_ne (by decide), hs1, upS_eq, c3]
      have m2' : M 111 2 = 0 := by
        rw [cM 111 2 (fun _ => by decide) (fun y => by unfold wyV at y; omega), b4]
      refine ⟨w32 ((-1) - (s1 2 10)), s1, M, hXe, ?_, inv_p hIG F rfl m2' m01 (told_p hIG.2.2.2.2.2.1 (F.ag rfl) m03), by rw [F 0 7 rfl, g7]⟩
      rw [c2, s1n 2 10 (by decide), c4]
