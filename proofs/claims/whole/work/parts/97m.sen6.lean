/-! SENTENCES: the call -/
theorem SnD_fin {σ τ M : xSt} {en : Int} (h1 : ∀ k : Nat, k < 40 → M 23 k = σ 43 k ∧ M 24 k = σ 44 k ∧ M 25 k = σ 45 k) (h2 : ∀ q : Nat, q < 160 → M 113 (684 + q) = τ 138 q) : ∀ n lo hi : Nat, hi ≤ 40 → SnD σ τ en n lo hi → Sen M 22 113 0 en n lo hi := by
  intro n
  induction n with
  | zero => exact fun _ _ _ h => h.elim
  | succ n ih =>
    intro lo hi h40 h
    obtain ⟨i, rfl, h⟩ := h
    obtain ⟨k1, k2, k3⟩ := h1 i (by omega)
    have e0 : M 113 (0 + 684 + 4 * i) = τ 138 (4 * i) := by
      rw [show 0 + 684 + 4 * i = 684 + 4 * i by omega, h2 _ (by omega)]
    have e1 : M 113 (0 + 685 + 4 * i) = τ 138 (4 * i + 1) := by
      rw [show 0 + 685 + 4 * i = 684 + (4 * i + 1) by omega, h2 _ (by omega)]
    have e2 : M 113 (0 + 686 + 4 * i) = τ 138 (4 * i + 2) := by
      rw [show 0 + 686 + 4 * i = 684 + (4 * i + 2) by omega, h2 _ (by omega)]
    have e3 : M 113 (0 + 687 + 4 * i) = τ 138 (4 * i + 3) := by
      rw [show 0 + 687 + 4 * i = 684 + (4 * i + 3) by omega, h2 _ (by omega)]
    have k1 : M (22 + 1) i = σ 43 i := k1
    have k2 : M (22 + 2) i = σ 44 i := k2
    have k3 : M (22 + 3) i = σ 45 i := k3
    refine ⟨i, rfl, ?_⟩
    rw [k1, k2, k3, e0, e1, e2, e3]
    rcases h with ⟨a1, a2, a3, a4⟩ | ⟨a1, m, a2, a3, a4⟩ | h
    · exact Or.inl ⟨a1, a2, ih _ _ (by omega) a3, a4⟩
    · have l3 := SnD_lt a3
      exact Or.inr (Or.inl ⟨a1, m, ih _ _ (by omega) a2, ih _ _ (by omega) a3, a4⟩)
    · exact Or.inr (Or.inr h)
theorem m_sen79 : ∀ (j m i : Nat) (σ : xSt), i + j = 240 → j < m → ∃ σ', f_M_sentence_79 m (i : Int) σ = some (σ 111 72, σ') ∧ (∀ q : Nat, i ≤ q → q < 240 → σ' 113 (684 + q) = σ 138 q) ∧ (∀ q : Nat, q < 684 + i → σ' 113 q = σ 113 q) ∧ ∀ a q, a ≠ 113 → σ' a q = σ a q := by
  intro j
  induction j with
  | zero =>
    intro m i σ h1 h2
    obtain ⟨m, rfl⟩ : ∃ n2, m = n2 + 1 := ⟨m - 1, by omega⟩
    refine ⟨σ, ?_, fun q a b => by omega, fun _ _ => rfl, fun _ _ _ => rfl⟩
    rw [f_M_sentence_79.eq_2, if_neg (by omega)]
  | succ j ih =>
    intro m i σ h1 h2
    obtain ⟨m, rfl⟩ : ∃ n2, m = n2 + 1 := ⟨m - 1, by omega⟩
    have b1 : (i : Int) < 240 := by omega
    have b2 : 0 ≤ (i : Int) ∧ (i : Int) < 240 := by omega
    have b3 : i < 100000 := by omega
    have b4 : 0 ≤ ((684 + i : Nat) : Int) ∧ ((684 + i : Nat) : Int) < 924 := by omega
    have e1 : w32 (684 + (i : Int)) = ((684 + i : Nat) : Int) := (w32_o (by omega) (by omega)).trans (by omega)
    obtain ⟨σ', k1, k3, k4, k5⟩ := ih m (i + 1) (upS σ 113 (684 + i) (σ 138 i)) (by omega) (by omega)
    rw [upS_ne (by decide)] at k1
    refine ⟨σ', ?_, fun q hq hq2 => ?_, fun q hq => ?_, fun a q ha => by rw [k5 a q ha, upS_rd, if_neg (fun z => ha z.1)]⟩
    · rw [f_M_sentence_79.eq_2, if_pos b1, if_pos b2, e1, if_pos b4, Int.toNat_natCast, Int.toNat_natCast, xlet_s, w32_n1 b3, xlet_s]
      exact k1
    · by_cases he : q = i
      · subst he
        rw [k4 _ (by omega), upS_rd, if_pos ⟨rfl, rfl⟩]
      · rw [k3 q (by omega) hq2, upS_rd, if_neg (by omega)]
    · rw [k4 q (by omega), upS_rd, if_neg (by omega)]
theorem tws_sen {G M : xSt} (hT : C_tab G) (hW : C_way G) (h22 : G 111 22 ≠ 0) (hc : ∀ a k, 7 ≤ a → a ≤ 21 → M a k = G a k) (m22 : M 111 22 = G 111 22) (h117 : ∀ k, M 117 k = G 117 k) (h113 : ∀ k : Nat, k < 682 → M 113 k = G 113 k) (hs : SentR M 7 22 113 0) : C_tab M ∧ C_way M ∧ C_sen M := by
  have hop : opM M = opM G := by
    unfold opM
    rw [m22, h113 2 (by omega)]
  refine ⟨⟨?_, fun z => absurd (m22.symm.trans z) h22⟩, ⟨?_, fun z => absurd (m22.symm.trans z) h22⟩, ⟨hs, fun z => absurd (m22.symm.trans z) h22⟩⟩
  · rw [hop]
    exact TabR_copy (fun k _ => hc 7 k (by omega) (by omega)) (fun k _ => ⟨hc _ k (by omega) (by omega), fun _ => hc _ k (by omega) (by omega), hc _ k (by omega) (by omega), hc _ k (by omega) (by omega)⟩) (fun k _ => hc _ k (by omega) (by omega)) (fun k _ => ⟨hc _ k (by omega) (by omega), hc _ k (by omega) (by omega), hc _ k (by omega) (by omega)⟩) (fun k hk => h113 (0 + k) (by omega)) (fun k _ => h117 (0 + k)) hT.1
  · exact WayR_copy (hc 7 1 (by omega) (by omega)) (hc 7 2 (by omega) (by omega)) hT.1.n3.1 (fun k _ => hc _ k (by omega) (by omega)) hT.1.n3.2 (hc 16 0 (by omega) (by omega)) (hc 16 1 (by omega) (by omega)) (fun k _ => ⟨hc _ k (by omega) (by omega), hc _ k (by omega) (by omega), hc _ k (by omega) (by omega), hc _ k (by omega) (by omega)⟩) (fun k _ => hc _ k (by omega) (by omega)) (fun k h1 h2 => h113 (0 + k) (by omega)) hW.1
theorem sent_read {σ : xSt} (h : Inv0 σ) : ∃ σ2, f_Tokens_begin (σ 0 1) 200 (upS σ 0 1 0) = some σ2 ∧ (∀ a k, (a < 2 ∨ 5 < a) → σ2 a k = upS σ 0 1 0 a k) ∧ ∀ s : xSt, (∀ a k, 111 ≤ a → (a = 111 → k ≠ 0) → s a k = σ a k) → ∃ τ, (∀ a k, (a = 111 → k < 2 ∨ 12 < k) → τ a k = gLay (σ 111 22) (upS s 111 0 0) a k) ∧ τ 111 2 = 0 ∧
    ((∃ (σ' τ' : xSt) (O S : Nat), f_Sentence_read σ2 = some (1, σ') ∧ f_M_sentence s = (xlet (upS τ' 113 682 1) fun σ7 => xlet (upS σ7 113 683 (σ7 111 74)) fun σ8 => f_M_sentence_79 1000000 0 σ8) ∧ KpX snW σ2 σ' ∧ KpM snV τ τ' ∧ σ' 2 9 = 0 ∧ τ' 111 10 = 0 ∧ σ' 42 0 = (O : Int) ∧ τ' 111 72 = (O : Int) ∧ 0 < O ∧ O ≤ 20 ∧ σ' 42 1 = (S : Int) ∧ 0 < S ∧ S ≤ 40 ∧ τ' 111 74 = (S : Int) - 1 ∧ SnA σ' τ' (gLay (σ 111 22) (upS σ 111 0 0) 7 2) 0 S) ∨
     (∃ σ' τ' : xSt, f_Sentence_read σ2 = some (0, σ') ∧ f_M_sentence s = some (w32 ((-1) - (τ' 111 11)), τ') ∧ Flt σ' τ' ∧ KpX snW σ2 σ' ∧ KpM snV τ τ')) := by
  obtain ⟨hl, hIG, h22, g7, gc⟩ := lay0 h
  obtain ⟨n, c, σ2, t1, t2, t3, t4, t5, t6⟩ := tok_start h (lim := 200) (by decide)
  have t2 : f_Tokens_begin (σ 0 1) 200 (upS σ 0 1 0) = some σ2 := t2
  refine ⟨σ2, t2, t5, fun s hs => ?_⟩
  obtain ⟨τ, b1, b2, b3, b4, b5⟩ := t6 s hs
  have b1 : f_M_begin 200 s = some τ := b1
  refine ⟨τ, b5, b4, ?_⟩
  obtain ⟨σ3, hσ3⟩ : ∃ σ3, σ3 = upS (upS σ2 42 0 0) 42 1 0 := ⟨_, rfl⟩
  obtain ⟨τ3, hτ3⟩ : ∃ τ3, τ3 = upS (upS (upS τ 111 71 0) 111 72 0) 111 73 0 := ⟨_, rfl⟩
  have σ3n : ∀ a q, a ≠ 42 → σ3 a q = σ2 a q := fun a q z => by rw [hσ3, upS_ne z, upS_ne z]
  have τ3n : ∀ a q, (a = 111 → q < 71 ∨ 73 < q) → τ3 a q = τ a q := fun a q z => by
    rw [hτ3]
    iterate 3 rw [upS_rd, if_neg (fun y => by
      have := z y.1
      omega)]
  have kX0 : KpX snW σ2 σ3 := fun a q z1 z2 => σ3n a q (fun y => z2 (by unfold snW; omega))
  have kM0 : KpM snV τ τ3 := fun a q z1 z2 => τ3n a q (fun y => by
    unfold snV at z2
    omega)
  have gg : ∀ a q, 111 < a → τ3 a q = gLay (σ 111 22) (upS σ 111 0 0) a q := fun a q z => by
    rw [τ3n a q (by omega), b5 a q (by omega)]
    exact gLay_cg (by rw [upS_ne (by omega), upS_ne (by omega), hs a q (by omega) (by omega)])
  have hX : ∀ a q, 7 ≤ a → a ≤ 15 → σ3 a q = gLay (σ 111 22) (upS σ 111 0 0) a q := fun a q z1 z2 => by
    rw [σ3n a q (by omega), t5 a q (by omega), upS_ne (by omega), gc a q (by omega)]
  have hR : SnR σ3 τ3 (σ 112) n c 0 0 0 0 σ3 τ3 := ⟨b2.cg (fun a k z1 z2 => σ3n a k (by omega)) (fun q z1 z2 => τ3n 111 q (fun _ => by omega)) (fun q => τ3n 112 q (fun z => absurd z (by decide))), by rw [σ3n 2 9 (by decide)]; exact t3, by rw [τ3n 111 10 (fun _ => by decide)]; exact b3, KpX.rf, KpM.rf, by rw [hσ3]; rfl, by rw [hτ3]; rfl, by rw [hσ3]; rfl, by rw [hτ3]; rfl, by rw [hτ3]; rfl, by decide, by decide⟩
  have xr : f_Sentence_read σ2 = (xbW ((g_Sentence_readAll 60).2.1 1 σ3) fun r2 σ3 => if r2 = 0 then (some (0, σ3)) else (xbW (f_Tokens_isDone σ3) fun r4 σ5 => if r4 = 0 then (some (0, σ5)) else (some (1, σ5)))) := by
    unfold f_Sentence_read f_Sentence_clear f_Sentence_readCondition
    rw [xlet_s, xlet_s, xbR_s, hσ3]
  have mr : f_M_sentence s = (xbW ((g_M_readAnd 60).2.2.2.2 τ3) fun r5 σ6 => if r5 = 0 then (some (w32 ((-1) - (σ6 111 11)), σ6)) else (if σ6 111 7 = 0 then (xlet (upS σ6 113 682 1) fun σ7 => xlet (upS σ7 113 683 (σ7 111 74)) fun σ8 => f_M_sentence_79 1000000 0 σ8) else (xbW (f_M_bad 1 σ6) fun r9 σ10 => some (w32 ((-1) - (σ10 111 11)), σ10)))) := by
    unfold f_M_sentence f_M_readOr
    rw [b1, xbR_s, xlet_s, xlet_s, xlet_s, hτ3]
  have hC := cond_of (one_lock (n := n) (c := c) (d := σ 112) hIG hX (fun q => gg 113 q (by decide)) (fun q => gg 117 q (by decide)) rfl 8 0 rfl) (F := 60) (F2 := 60) (by decide) (by decide)
  rcases hC 0 0 0 σ3 τ3 hR with ⟨σ4, τ4, a1, a2, i', O, S, c1, c2, c3, c4, c5, c6⟩ | ⟨σ4, τ4, a1, a2, a3, a4, a5⟩
  · have a1 : (g_Sentence_readAll 60).2.1 1 σ3 = some (1, σ4) := a1
    have a2 : (g_M_readAnd 60).2.2.2.2 τ3 = some (1, τ4) := a2
    obtain ⟨hL, h9, h10, kX, kM, o1, o2, s1, s2, w1, hO20, hSO⟩ := c1
    have kX4 : KpX snW σ2 σ4 := kX0.st (fun a q z1 z2 => kX a q z1 z2)
    have kM4 : KpM snV τ τ4 := kM0.st (fun a q z1 z2 => kM a q z1 z2)
    rw [a1, xbW_s, if_neg (by decide)] at xr
    rw [a2, xbW_s, if_neg (by decide)] at mr
    unfold f_Tokens_isDone at xr
    by_cases hk : σ4 2 6 = 0
    · have hk2 : τ4 111 7 = 0 := hL.hand.endd.mp hk
      rw [if_pos hk, xbW_s, if_neg (by decide)] at xr
      rw [if_pos hk2] at mr
      exact Or.inl ⟨σ4, τ4, O, S, xr, mr, kX4, kM4, h9, h10, o1, o2, by omega, hO20, s1, c6.1, by omega, c2, c6⟩
    · have hk2 : ¬ τ4 111 7 = 0 := fun z => hk (hL.hand.endd.mpr z)
      obtain ⟨σ', τ', w1, w2, w3, w4, w5, w6⟩ := hL.hand.fail h9 (p := 1) (fun _ => rfl)
      rw [if_neg hk, w1, xbW_s, if_pos rfl, xbW_s, if_pos rfl] at xr
      rw [if_neg hk2, w2, xbW_s] at mr
      exact Or.inr ⟨σ', τ', xr, mr, w3, kX4.fail w5, kM4.bad w6⟩
  · have a1 : (g_Sentence_readAll 60).2.1 1 σ3 = some (0, σ4) := a1
    have a2 : (g_M_readAnd 60).2.2.2.2 τ3 = some (0, τ4) := a2
    rw [a1, xbW_s, if_pos rfl] at xr
    rw [a2, xbW_s, if_pos rfl] at mr
    exact Or.inr ⟨σ4, τ4, xr, mr, a3, kX0.st (fun a q z1 z2 => a4 a q z1 z2), kM0.st (fun a q z1 z2 => a5 a q z1 z2)⟩
def s_sm : xZ := [(111, [2, 3, 4, 5, 6, 7, 8, 9, 10, 11, 12, 13, 71, 72, 73, 74]), (138, [])]
theorem s_sm_out {a k : Nat} (h : inS s_sm a k = false) : (a = 111 → k < 2 ∨ 13 < k) ∧ ¬ snV a k := by
  have key : ∀ k : Fin 75, inS s_sm 111 k.val = false → (k.val < 2 ∨ 13 < k.val ∧ k.val < 71) := by decide +kernel
  have h2 : a = 111 → k < 2 ∨ 13 < k ∧ k < 71 ∨ 74 < k := by
    rintro rfl
    rcases Nat.lt_or_ge k 75 with z | z
    · have := key ⟨k, z⟩ h
      have this : k < 2 ∨ 13 < k ∧ k < 71 := this
      omega
    · omega
  refine ⟨fun z => by have := h2 z; omega, ?_⟩
  rintro (y | ⟨y1, y2, y3⟩)
  · subst y
    cases h
  · have := h2 y1
    omega
def s_sf : xZ := [(0, [1, 3]), (2, [4, 5, 6, 7, 8, 9, 10]), (3, []), (4, []), (5, []), (42, [0, 1]), (43, []), (44, []), (45, [])]
theorem sim_sentence {n : Nat} : SimW (InvN (n + 1)) (InvN n) f_X_sentence f_M_sentence := by
  refine simW0 (fun σ h => ?_)
  obtain ⟨hl, hIG, h22, g7, gc⟩ := lay0 h
  have hT : f_X_takeTape σ = some (σ 0 1, upS σ 0 1 0) := by
    unfold f_X_takeTape
    rw [xlet_s, xlet_s]
  obtain ⟨σ2, t2, t5, lock⟩ := sent_read h
  obtain ⟨_, _, _, c0⟩ := lock σ (fun _ _ _ _ => rfl)
  rcases c0 with ⟨σ', _, _, _, a1, _⟩ | ⟨σ', _, a1, _⟩
  · have FJ : Fr s_Sentence_read σ2 σ' := fr_Sentence_read a1
    obtain ⟨s1, x1, x2, x3, x4, x6⟩ := x_csen (a0 := 22) (a1 := 42) (by decide) (upS σ' 0 3 (σ' 2 9))
    have hXe : f_X_sentence σ = some (s1 22 0, s1) := by
      unfold f_X_sentence
      rw [hT, xbW_s, t2, xbR_s, a1, xbW_s, xlet_s, if_neg (by decide), x1, xbR_s]
    have FX : Fr s_X_sentence σ s1 := fr_X_sentence hXe
    have sM : ∀ a k, 111 ≤ a → s1 a k = σ a k := fun a k z => FX a k (inS_lo rfl z)
    have s1n : ∀ a k, (a < 22 ∨ 25 < a) → (a = 0 → k ≠ 3) → s1 a k = σ' a k := fun a k z1 z2 => by
      rw [x6 a k z1, upS_rd, if_neg (fun y => z2 y.1 y.2)]
    obtain ⟨τ, b5, b4, ⟨ρ, τ', O, S, c1, c2, cX, cM, c9, c10, cO, cOm, cO0, cO20, cS, cS0, cS40, cT, cA⟩ | ⟨ρ, _, c1, _⟩⟩ := lock s1 (fun a k z1 _ => sM a k z1)
    · rw [a1] at c1
      obtain rfl : σ' = ρ := (Prod.mk.inj (Option.some.inj c1)).2
      obtain ⟨T, hTT⟩ : ∃ T, T = upS (upS τ' 113 682 1) 113 683 ((S : Int) - 1) := ⟨_, rfl⟩
      obtain ⟨M, m1, m3, m4, m5⟩ := m_sen79 240 1000000 0 T (by decide) (by decide)
      rw [c0n] at m1
      have s03 : s1 0 3 = 0 := by rw [x6 0 3 (by decide), upS_eq, c9]
      have s01 : s1 0 1 = 0 := by rw [s1n 0 1 (by decide) (fun _ => by decide), FJ 0 1 rfl, t5 0 1 (by decide), upS_eq]
      have F1 : Fr (s_X_sentence ++ (s_sm ++ [(113, [])])) (gLay (σ 111 22) (upS σ 111 0 0)) (gLay (σ 111 22) (upS s1 111 0 0)) := (gLay_fr (Fr.both FX)).mono rfl
      have F2 : Fr s_sm (gLay (σ 111 22) (upS s1 111 0 0)) τ' := fun a k hk => by
        obtain ⟨y1, y2⟩ := s_sm_out hk
        rw [cM a k (fun y => by have := y1 y; omega) y2, b5 a k (fun y => by have := y1 y; omega)]
      have Mn : ∀ a q, a ≠ 113 → M a q = τ' a q := fun a q z => by
        rw [m5 a q z, hTT, upS_ne z, upS_ne z]
      have F3 : Fr [(113, [])] τ' M := fun a k hk => Mn a k (fun y => by
        subst y
        cases hk)
      have F : Fr (s_X_sentence ++ (s_sm ++ [(113, [])])) (gLay (σ 111 22) (upS σ 111 0 0)) M := Fr.call (Fr.call F1 F2 rfl) F3 rfl
      have Ms : ∀ a k, a ≤ 110 → M a k = s1 a k := fun a k z => by
        rw [Mn a k (by omega), F2 a k (inS_no (fun e he => by
          unfold s_sm at he
          simp only [List.mem_cons, List.not_mem_nil, or_false] at he
          rcases he with rfl | rfl <;> (dsimp only; omega))), gLay_k (fun y => by omega) (fun y => by omega), upS_ne (by omega)]
      have M41 : ∀ k : Nat, k < 682 → M 113 k = gLay (σ 111 22) (upS σ 111 0 0) 113 k := fun k hk => by
        rw [m4 k (by omega), hTT, upS_nk (by omega), upS_nk (by omega), F2 113 k rfl]
        exact gLay_cg (by rw [upS_ne (by decide), upS_ne (by decide), sM 113 k (by decide)])
      have m682 : M 113 682 = 1 := by rw [m4 682 (by decide), hTT, upS_nk (by decide), upS_eq]
      have m683 : M 113 683 = (S : Int) - 1 := by rw [m4 683 (by decide), hTT, upS_eq]
      have M22 : ∀ k, M 22 k = s1 22 k := fun k => Ms 22 k (by decide)
      have e72 : M 7 2 = gLay (σ 111 22) (upS σ 111 0 0) 7 2 := by
        rw [Ms 7 2 (by decide), s1n 7 2 (by decide) (fun y => by omega), FJ 7 2 rfl, t5 7 2 (by decide), upS_ne (by decide), gc 7 2 (by decide)]
      have hSe : SentR M 7 22 113 0 := by
        have q0 : M 22 0 = (O : Int) := by rw [M22, x2, upS_ne (by decide), cO]
        have q1 : M 22 1 = (S : Int) := by rw [M22, x3, upS_ne (by decide), cS]
        unfold SentR
        rw [q0, q1]
        refine ⟨by omega, by omega, Or.inr ⟨by omega, m682, by omega, by omega, m683, ?_⟩⟩
        rw [Int.toNat_natCast, e72]
        refine SnD_fin (σ := σ') (τ := τ') (fun k hk => ?_) (fun q hq => ?_) 40 0 S cS40 (cA.2 40 (by omega))
        · obtain ⟨y1, y2, y3⟩ := x4 k hk
          refine ⟨?_, ?_, ?_⟩
          · rw [Ms 23 k (by decide)]
            exact y1
          · rw [Ms 24 k (by decide)]
            exact y2
          · rw [Ms 25 k (by decide)]
            exact y3
        · rw [m3 q (Nat.zero_le q) (by omega), hTT, upS_ne (by decide), upS_ne (by decide)]
      obtain ⟨p1, p2, p3, p4, p5, p6, p7, p8⟩ := hIG
      have m2' : M 111 2 = 0 := by
        rw [Mn 111 2 (by decide), cM 111 2 (fun _ => by decide) (fun y => by unfold snV at y; omega), b4]
      have m01 : M 0 1 = 0 := by rw [Ms 0 1 (by decide), s01]
      obtain ⟨w1, w2, w3⟩ := tws_sen p2 p3 h22 (fun a k z1 z2 => F a k (inS_no (fun e he => by
        unfold s_X_sentence s_sm at he
        simp only [List.cons_append, List.nil_append, List.mem_cons, List.not_mem_nil, or_false] at he
        rcases he with rfl | rfl | rfl | rfl | rfl | rfl | rfl | rfl | rfl | rfl | rfl | rfl | rfl | rfl | rfl | rfl <;> (dsimp only; omega)))) (F 111 22 rfl) (fun k => F 117 k rfl) M41 hSe
      refine ⟨s1 22 0, s1, M, hXe, ?_, ⟨⟨by omega, by omega, by rw [m2', m01], fun k hk => by omega⟩, w1, w2, w3, p5.ag (F.ag rfl), told_p p6 (F.ag rfl) (by rw [Ms 0 3 (by decide), s03, Mn 111 10 (by decide), c10]), p7.ag (F.ag rfl), p8.ag (F.ag rfl)⟩, by rw [F 0 7 rfl, g7]⟩
      rw [c2, xlet_s, upS_ne (by decide), cT, xlet_s, ← hTT, m1, x2, upS_ne (by decide), cO, hTT, upS_ne (by decide), upS_ne (by decide), cOm]
    · rw [a1] at c1
      cases c1
  · have FJ : Fr s_Sentence_read σ2 σ' := fr_Sentence_read a1
    obtain ⟨s1, hs1⟩ : ∃ s1, s1 = upS σ' 0 3 (σ' 2 9) := ⟨_, rfl⟩
    have hXe : f_X_sentence σ = some (w32 ((-1) - (s1 2 10)), s1) := by
      unfold f_X_sentence
      rw [hT, xbW_s, t2, xbR_s, a1, xbW_s, xlet_s, if_pos rfl, hs1]
    have FX : Fr s_X_sentence σ s1 := fr_X_sentence hXe
    have sM : ∀ a k, 111 ≤ a → s1 a k = σ a k := fun a k z => FX a k (inS_lo rfl z)
    have s1n : ∀ a k, (a = 0 → k ≠ 3) → s1 a k = σ' a k := fun a k z2 => by
      rw [hs1, upS_rd, if_neg (fun y => z2 y.1 y.2)]
    have s01 : s1 0 1 = 0 := by rw [s1n 0 1 (fun _ => by decide), FJ 0 1 rfl, t5 0 1 (by decide), upS_eq]
    obtain ⟨τ, b5, b4, ⟨ρ, _, _, _, c1, _⟩ | ⟨ρ, M, c1, c2, ⟨c3, c4⟩, cX, cM⟩⟩ := lock s1 (fun a k z1 _ => sM a k z1)
    · rw [a1] at c1
      cases c1
    · rw [a1] at c1
      obtain rfl : σ' = ρ := (Prod.mk.inj (Option.some.inj c1)).2
      have FS : Fr s_sf σ s1 := Fr.up (Fr.call (Fr.call (Fr.up Fr.rf rfl rfl) (fr_Tokens_begin t2) rfl) (fr_Sentence_read a1) rfl) hs1 rfl
      have F1 : Fr (s_sf ++ s_sm) (gLay (σ 111 22) (upS σ 111 0 0)) (gLay (σ 111 22) (upS s1 111 0 0)) := (gLay_fr (Fr.both FS)).mono rfl
      have F2 : Fr s_sm (gLay (σ 111 22) (upS s1 111 0 0)) M := fun a k hk => by
        obtain ⟨y1, y2⟩ := s_sm_out hk
        rw [cM a k (fun y => by have := y1 y; omega) y2, b5 a k (fun y => by have := y1 y; omega)]
      have F : Fr (s_sf ++ s_sm) (gLay (σ 111 22) (upS σ 111 0 0)) M := Fr.call F1 F2 rfl
      have m01 : M 0 1 = 0 := by
        rw [F2 0 1 rfl, gLay_k (fun y => by omega) (fun y => by omega), upS_ne (by decide), s01]
      have m03 : M 0 3 = M 111 10 := by
        rw [F2 0 3 rfl, gLay_k (fun y => by omega) (fun y => by omega), upS_ne (by decide), hs1, upS_eq, c3]
      have m2' : M 111 2 = 0 := by
        rw [cM 111 2 (fun _ => by decide) (fun y => by unfold snV at y; omega), b4]
      refine ⟨w32 ((-1) - (s1 2 10)), s1, M, hXe, ?_, inv_p hIG F rfl m2' m01 (told_p hIG.2.2.2.2.2.1 (F.ag rfl) m03), by rw [F 0 7 rfl, g7]⟩
      rw [c2, s1n 2 10 (by decide), c4]
