/-! take -/
theorem side_lock {σ τ : xSt} {n sd : Nat} {c h fr : Int} (hn : σ 16 0 = (n : Int)) (hm : τ 111 25 = (n : Int)) (h80 : n + 3 ≤ 80) (hL : LfR τ c h) (hC : 3 ≤ c → CnR σ 7 ((c - 3) / 9)) (hfr : fr < (n : Int)) (hsd : sd < 6) (he : 2 ≤ σ 7 2) (h36 : ∀ k : Nat, (k : Int) < σ 7 1 → σ 10 k ≤ 6) (D : Nat) :
    ∃ n' σ' τ', f_Best_buildSide fr (sd : Int) c σ = some σ' ∧ g_M_laySide (D + 2) h τ = some ((n : Int), τ') ∧ GrX 16 n n' fr sd σ σ' ∧ GrM n n' τ τ' ∧ (∀ k : Nat, n ≤ k → k < n' → NdX σ' τ' 7 16 k) ∧ n' ≤ n + 3 ∧ ∀ d, Sub σ' 7 16 (d + 1) n n' (if c < 3 then 0 else 1) := by
  obtain ⟨h1, h2, h3⟩ := hL
  rcases h3 with ⟨h3, rfl⟩ | ⟨h3, h4, h5, h6, h7⟩
  · obtain ⟨l, rfl⟩ : ∃ l : Nat, h = (l : Int) := ⟨h.toNat, by omega⟩
    obtain ⟨σ', τ', a1, a2, a3, a4, a5, a6⟩ := leaf_lock (l := l) hn hm (by omega) (by omega) hfr hsd he (D + 1)
    refine ⟨n + 1, σ', τ', ?_, a2, a3, a4, fun k k1 k2 => ?_, by omega, fun d => ?_⟩
    · unfold f_Best_buildSide
      rw [if_pos h3, a1, xbR_s]
    · obtain rfl : k = n := by omega
      exact a5
    · rw [if_pos h3]
      exact a6 (d + 1)
  · obtain ⟨x, rfl⟩ : ∃ x : Nat, c = ((x + 3 : Nat) : Int) := ⟨(c - 3).toNat, by omega⟩
    obtain ⟨y, rfl⟩ : ∃ y : Nat, h = ((y + 3 : Nat) : Int) := ⟨(h - 3).toNat, by omega⟩
    have ex : (((x + 3 : Nat) : Int) - 3) / 9 = ((x / 9 : Nat) : Int) := by omega
    have ey : ((((y + 3 : Nat) : Int) - 3) / 9).toNat = y / 9 := by omega
    have hC := hC h3
    rw [ex] at hC h7
    rw [ey] at h7
    obtain ⟨σ', τ', a1, a2, a3, a4, a5, a6⟩ := coin_lock (c := x) (h := y) (fr := fr) (sd := sd) hn hm h80 (by omega) (by omega) (by omega) h7 hC hfr hsd he h36 D
    exact ⟨n + 3, σ', τ', a1, a2, a3, a4, a5, Nat.le_refl _, fun d => by rw [if_neg (by omega)]; exact a6 d⟩
/-- BEST as a WAY: both sides -/
theorem best_lock {σ s1 τ : xSt} (c8 : 0 ≤ σ 105 2) (c11 : LfR σ (σ 105 3) (σ 133 1)) (c12 : LfR σ (σ 105 4) (σ 133 2)) (d1 : 2 ≤ σ 7 2) (d2 : CnR σ 7 (σ 105 2)) (d3 : 3 ≤ σ 105 3 → CnR σ 7 ((σ 105 3 - 3) / 9)) (d4 : 3 ≤ σ 105 4 → CnR σ 7 ((σ 105 4 - 3) / 9)) (h36 : ∀ k : Nat, (k : Int) < σ 7 1 → σ 10 k ≤ 6) (c10 : σ 133 0 = σ 105 2)
    (xX : s1 16 0 = ((0 + 1 : Nat) : Int)) (x3 : s1 (16 + 1) 0 = 2) (x4 : s1 (16 + 2) 0 = σ 105 2) (x5 : s1 (16 + 3) 0 = -1) (x7 : ∀ s : Nat, s < 6 → s1 (16 + 5) (6 * 0 + s) = -1) (y12 : ∀ a q, (a < 16 ∨ 21 < a) → s1 a q = σ a q) (m25 : τ 111 25 = 0) (m135 : ∀ k, τ 135 k = σ 135 k) :
    ∃ (n1 n2 : Nat) (s2 s3 τ1 τ2 τ3 : xSt), f_Best_buildSide 0 0 (σ 105 3) s1 = some s2 ∧ f_Best_buildSide 0 1 (σ 105 4) s2 = some s3 ∧ f_M_lays 2 (σ 133 0) τ = some (0, τ1) ∧ g_M_laySide 60 (σ 133 1) τ1 = some (1, τ2) ∧ g_M_laySide 60 (σ 133 2) (upS τ2 115 2 1) = some ((n1 : Int), τ3) ∧
      n2 ≤ 7 ∧ 0 < n2 ∧ s3 16 0 = (n2 : Int) ∧ τ3 111 25 = (n2 : Int) ∧ (∀ k : Nat, k < n2 → NdX s3 (upS τ3 115 3 (n1 : Int)) 7 16 k) ∧ (Sub s3 7 16 6 0 n2 (max (if σ 105 3 < 3 then 0 else 1) (if σ 105 4 < 3 then 0 else 1) + 1)) ∧ s3 19 0 = -1 := by
  obtain ⟨τ1, z1, zM, z3, z4, z5, z7⟩ := m_laysG (n := 0) (σ := τ) m25 (by decide) 2 (σ 133 0)
  have q135 : ∀ k, τ1 135 k = σ 135 k := fun k => (z7 135 k (by decide) (fun z => absurd z (by decide))).trans (m135 k)
  have L1 : LfR τ1 (σ 105 3) (σ 133 1) := by
    obtain ⟨l1, l2, l3⟩ := c11
    exact ⟨l1, l2, by rw [q135]; exact l3⟩
  have C1 : 3 ≤ σ 105 3 → CnR s1 7 ((σ 105 3 - 3) / 9) := fun z => by
    obtain ⟨l1, l2, l3⟩ := d3 z
    exact ⟨l1, by rw [y12 7 1 (by decide)]; exact l2, by rw [y12 (7 + 3) _ (by decide)]; exact l3⟩
  obtain ⟨n1, s2, τ2, u1, u2, uX, uM, u5, u6, u7⟩ := side_lock (n := 1) (sd := 0) (fr := ((0 : Nat) : Int)) (D := 58) xX zM.1 (by decide) L1 C1 (by decide) (by decide) (by rw [y12 7 2 (by decide)]; exact d1) (fun k hk => by rw [y12 10 k (by decide)]; exact h36 k (by rw [← y12 7 1 (by decide)]; exact hk))
  have F1 : Fr s_Best_buildSide s1 s2 := fr_Best_buildSide u1
  have y7 : ∀ k, s2 7 k = σ 7 k := fun k => (F1 7 k rfl).trans (y12 7 k (by decide))
  have y10 : ∀ k, s2 10 k = σ 10 k := fun k => (F1 10 k rfl).trans (y12 10 k (by decide))
  have G1 : Fr s_M_laySide τ1 τ2 := fr_M_laySide (n := 60) u2
  have p25 : (upS τ2 115 2 1) 111 25 = (n1 : Int) := by rw [upS_ne (by decide)]; exact uM.1
  have L2 : LfR (upS τ2 115 2 1) (σ 105 4) (σ 133 2) := by
    obtain ⟨l1, l2, l3⟩ := c12
    refine ⟨l1, l2, ?_⟩
    rw [upS_ne (by decide), G1 135 _ rfl, q135]
    exact l3
  have C2 : 3 ≤ σ 105 4 → CnR s2 7 ((σ 105 4 - 3) / 9) := fun z => by
    obtain ⟨l1, l2, l3⟩ := d4 z
    exact ⟨l1, by rw [y7]; exact l2, by rw [y10]; exact l3⟩
  have un : 1 < n1 := uX.2.1
  obtain ⟨n2, s3, τ3, v1, v2, vX, vM, v5, v6, v7⟩ := side_lock (n := n1) (sd := 1) (fr := ((0 : Nat) : Int)) (D := 58) (σ := s2) (τ := upS τ2 115 2 1) uX.1 p25 (by omega) L2 C2 (by omega) (by decide) (by rw [y7]; exact d1) (fun k hk => by rw [y10]; exact h36 k (by rw [← y7]; exact hk))
  have F2 : Fr s_Best_buildSide s2 s3 := fr_Best_buildSide v1
  have vn : n1 < n2 := vX.2.1
  obtain ⟨r1, r2, r3, r4, r5, r6, r7, r8, r9⟩ := two_root (n := 0) uX vX x3 x4 x7
  obtain ⟨t1, t2, t3, t4, t5, t6, t7, t8⟩ := two_rootM (n := 0) (by omega) uM vM z3 z4 z5
  obtain ⟨e1, e2, e3⟩ := d2
  have k7 : ∀ k, s3 7 k = s2 7 k := fun k => F2 7 k rfl
  have k10 : ∀ k, s3 (7 + 3) k = s2 (7 + 3) k := fun k => F2 10 k rfl
  have e2' : σ 105 2 < s3 7 1 := by rw [k7, y7]; exact e2
  have e3' : s3 (7 + 3) (σ 105 2).toNat = 2 := by rw [k10, show s2 (7 + 3) (σ 105 2).toNat = σ 10 (σ 105 2).toNat from y10 _]; exact e3
  have x19 : s3 (16 + 3) 0 = -1 := by
    rw [(vX.2.2.2.2.2.2.1 0 (by omega)).2.2.1, (uX.2.2.2.2.2.2.1 0 (by decide)).2.2.1]
    exact x5
  have sub1 : Sub s3 7 16 5 1 n1 (if σ 105 3 < 3 then 0 else 1) := Sub_gr vX (Nat.le_refl _) (by decide) (by decide) k7 k10 (fun k hk => by rw [y7] at hk; rw [show s2 (7 + 3) k = σ 10 k from y10 k]; exact h36 k hk) (u7 4)
  refine ⟨n1, n2, s2, s3, τ1, τ2, τ3, u1, v1, z1, u2, v2, by omega, by omega, vX.1, vM.1, fun k hk => ?_, ?_, x19⟩
  · by_cases k0 : k = 0
    · subst k0
      exact two_nd c8 e2' e3' r1 r2 r3 r4 r5 t1 (t2.trans c10) t3 t4 t5
    · by_cases k1 : k < n1
      · exact NdX_gr vX k1 k0 (by decide) k7 k10 (fun q h1 h2 => t7 q (by omega) (by omega)) (u5 k (by omega) k1)
      · exact NdX_keep (fun _ => rfl) (fun _ => rfl) rfl rfl (fun _ _ => rfl) (fun q h1 h2 => t8 q (by omega)) (v5 k (by omega) hk)
  · exact Sub_two r1 (by rw [r2]; exact c8) (by rw [r2]; exact e2') (by rw [r2]; exact e3') sub1 (v7 4) r6 r7 r3 r8 r9 r4
theorem m_take83 {n : Nat} (hn : n ≤ 80) : ∀ (j m i : Nat) (σ : xSt), i + j = 8 * n → σ 111 25 = (n : Int) → j < m → ∃ σ', f_M_take_83 m (i : Int) σ = some (1, σ') ∧ σ' 113 41 = (n : Int) ∧ (∀ q : Nat, i ≤ q → q < 8 * n → σ' 113 (42 + q) = σ 115 q) ∧ (∀ q : Nat, (q < 41 ∨ 41 < q ∧ q < 42 + i ∨ 42 + 8 * n ≤ q) → σ' 113 q = σ 113 q) ∧ ∀ a q, a ≠ 113 → σ' a q = σ a q := by
  intro j
  induction j with
  | zero =>
    intro m i σ h1 h0 h2
    obtain ⟨m, rfl⟩ : ∃ n2, m = n2 + 1 := ⟨m - 1, by omega⟩
    have e0 : w32 (8 * (n : Int)) = ((8 * n : Nat) : Int) := (w32_o (by omega) (by omega)).trans (by omega)
    refine ⟨upS σ 113 41 (n : Int), ?_, by rw [upS_rd, if_pos ⟨rfl, rfl⟩], fun q a b => by omega, fun q hq => by rw [upS_rd, if_neg (by omega)], fun a q ha => by rw [upS_rd, if_neg (fun z => ha z.1)]⟩
    rw [f_M_take_83.eq_2, h0, e0, if_neg (by omega), xlet_s]
  | succ j ih =>
    intro m i σ h1 h0 h2
    obtain ⟨m, rfl⟩ : ∃ n2, m = n2 + 1 := ⟨m - 1, by omega⟩
    have b1 : (i : Int) < ((8 * n : Nat) : Int) := by omega
    have b2 : 0 ≤ (i : Int) ∧ (i : Int) < 640 := by omega
    have b3 : i < 100000 := by omega
    have b4 : 0 ≤ ((42 + i : Nat) : Int) ∧ ((42 + i : Nat) : Int) < 924 := by omega
    have e0 : w32 (8 * (n : Int)) = ((8 * n : Nat) : Int) := (w32_o (by omega) (by omega)).trans (by omega)
    have e1 : w32 (42 + (i : Int)) = ((42 + i : Nat) : Int) := (w32_o (by omega) (by omega)).trans (by omega)
    obtain ⟨σ', k1, k2, k3, k4, k5⟩ := ih m (i + 1) (upS σ 113 (42 + i) (σ 115 i)) (by omega) (by rw [upS_rd, if_neg (by omega), h0]) (by omega)
    refine ⟨σ', ?_, k2, fun q hq hq2 => ?_, fun q hq => ?_, fun a q ha => by rw [k5 a q ha, upS_rd, if_neg (fun z => ha z.1)]⟩
    · rw [f_M_take_83.eq_2, h0, e0, if_pos b1, if_pos b2, e1, if_pos b4, Int.toNat_natCast, Int.toNat_natCast, xlet_s, w32_n1 b3, xlet_s]
      exact k1
    · by_cases he : q = i
      · subst he
        rw [k4 _ (by omega), upS_rd, if_pos ⟨rfl, rfl⟩]
      · rw [k3 q (by omega) hq2, upS_rd, if_neg (by omega)]
    · rw [k4 q (by omega), upS_rd, if_neg (by omega)]
theorem way_fin {M σ τ : xSt} {b w n m : Nat} (hn : M w 0 = (n : Int)) (h0 : 0 < n) (h80 : n ≤ 80) (hm : M w 1 = (m : Int)) (hX : ∀ k : Nat, k < n → NdX σ τ b w k) (s1 : ∀ k, M (w + 1) k = σ (w + 1) k) (s2 : ∀ k, M (w + 2) k = σ (w + 2) k) (s5 : ∀ k, M (w + 5) k = σ (w + 5) k) (sb : ∀ k, M b k = σ b k) (sb3 : ∀ k, M (b + 3) k = σ (b + 3) k)
    (h41 : M 113 41 = (n : Int)) (hc : ∀ q : Nat, q < 8 * n → M 113 (42 + q) = τ 115 q) (hS : Sub M b w 6 0 n m) (h3 : M (w + 3) 0 = -1) : WayR M b w 113 0 := by
  unfold WayR
  refine ⟨by rw [hn]; exact h41.symm, by omega, by omega, fun k hk => ?_, fun z => by omega, fun _ => ⟨?_, by omega, h3⟩⟩
  · obtain ⟨a1, a2, a3, a4, a5⟩ := hX k (by omega)
    have c0 : M 113 (0 + 42 + 8 * k) = τ 115 (8 * k) := by
      rw [show 0 + 42 + 8 * k = 42 + 8 * k by omega, hc _ (by omega)]
    have c1 : M 113 (0 + 43 + 8 * k) = τ 115 (8 * k + 1) := by
      rw [show 0 + 43 + 8 * k = 42 + (8 * k + 1) by omega, hc _ (by omega)]
    have c2 : ∀ s : Nat, s < 6 → M 113 (0 + 44 + 8 * k + s) = τ 115 (8 * k + 2 + s) := fun s hs => by
      rw [show 0 + 44 + 8 * k + s = 42 + (8 * k + 2 + s) by omega, hc _ (by omega)]
    unfold NdR
    rw [s1, s2, sb, sb, sb3, c0, c1]
    refine ⟨a1, a2, fun s hs => ?_, fun s hs => ?_, a5⟩
    · rw [s5, c2 s hs]
      exact a3 s hs
    · rw [s5]
      exact a4 s hs
  · rw [hn, hm]
    exact hS
theorem tws_way {G M : xSt} (hT : C_tab G) (hS : C_sen G) (h22 : G 111 22 ≠ 0) (hc : ∀ a k, (7 ≤ a ∧ a ≤ 15 ∨ 22 ≤ a ∧ a ≤ 25) → M a k = G a k) (m22 : M 111 22 = G 111 22) (h117 : ∀ k, M 117 k = G 117 k) (h113 : ∀ k : Nat, (k < 41 ∨ 682 ≤ k) → M 113 k = G 113 k) (hw : WayR M 7 16 113 0) : C_tab M ∧ C_way M ∧ C_sen M := by
  have hop : opM M = opM G := by
    unfold opM
    rw [m22, h113 2 (by omega)]
  refine ⟨⟨?_, fun z => absurd (m22.symm.trans z) h22⟩, ⟨hw, fun z => absurd (m22.symm.trans z) h22⟩, ⟨?_, fun z => absurd (m22.symm.trans z) h22⟩⟩
  · rw [hop]
    exact TabR_copy (fun k _ => hc 7 k (by omega)) (fun k _ => ⟨hc _ k (by omega), fun _ => hc _ k (by omega), hc _ k (by omega), hc _ k (by omega)⟩) (fun k _ => hc _ k (by omega)) (fun k _ => ⟨hc _ k (by omega), hc _ k (by omega), hc _ k (by omega)⟩) (fun k hk => h113 (0 + k) (by omega)) (fun k _ => h117 (0 + k)) hT.1
  · exact SentR_copy (hc 7 2 (by omega)) (hc 22 0 (by omega)) (hc 22 1 (by omega)) (fun k _ => ⟨hc _ k (by omega), hc _ k (by omega), hc _ k (by omega)⟩) (fun k h1 _ => h113 (0 + k) (by omega)) hS.1
def s_tk : xZ := [(16, [0, 1]), (17, []), (18, []), (19, []), (20, []), (21, []), (111, [0, 25]), (113, []), (115, [])]
theorem sim_take {n : Nat} : SimW (InvN (n + 1)) (InvN n) f_X_take f_M_take := by
  refine simW0 (fun σ h => ?_)
  obtain ⟨σL, hl, -, hIG, h22, hop⟩ := lay_ok h
  obtain rfl : gLay (σ 111 22) σ = σL := Option.some.inj ((gLay_f rfl).symm.trans hl)
  obtain ⟨b1, b2, b3, b4, -⟩ := h.2.2.2.2.2.2.2.of
  have e22 : (upS σ 111 0 0) 111 22 = σ 111 22 := rfl
  have hIn : Inv0 (gLay (σ 111 22) (upS σ 111 0 0)) := by
    obtain ⟨τ, t1, -, t3, -, -⟩ := lay_ok (inv_thr (v := 0) h)
    rw [gLay_f e22] at t1
    obtain rfl := Option.some.inj t1
    exact t3
  have g7 : gLay (σ 111 22) (upS σ 111 0 0) 0 7 = σ 0 7 := by rw [gLay_k (by omega) (by omega), upS_rd, if_neg (by omega)]
  have t0 : σ 7 0 = σ 113 3 := h.2.1.1.1
  rcases b4 with ⟨c1, c2⟩ | ⟨c1, c2, c3, c4, c5, c6, c7, c8, c9, c10, c11, c12⟩
  · refine ⟨0, σ, gLay (σ 111 22) (upS σ 111 0 0), ?_, ?_, hIn, g7⟩
    · unfold f_X_take
      rw [if_pos c1]
    · unfold f_M_take
      rw [xlet_s, gLay_f e22, xbR_s, if_pos (by rw [gLay_k (by omega) (by omega), upS_rd, if_neg (by omega), c2])]
  · have c58 : ¬ σ 111 58 = -1 := by omega
    by_cases h1 : σ 105 1 = σ 7 0
    · obtain ⟨-, -, b0⟩ := b1
      obtain ⟨d1, d2, d3, d4⟩ := b0 c1 h1.symm
      obtain ⟨ht, ht0, ht3⟩ := h.things
      have h36 : ∀ k : Nat, (k : Int) < σ 7 1 → σ 10 k ≤ 6 := h.2.1.1.n3.2
      obtain ⟨s1, x1, x2, x3, x4, x5, x6, x7, x8, x9, x10, x11, x12⟩ := x_wadd (w := 16) (n := 0) (σ := upS (upS σ 16 0 0) 16 1 0) rfl (by decide) 2 (σ 105 2) (-1) (sd := 0) (by decide) (by omega)
      have y12 : ∀ a q, (a < 16 ∨ 21 < a) → s1 a q = σ a q := fun a q ha => by rw [x12 a q (by omega), upS_rd, if_neg (by omega), upS_rd, if_neg (by omega)]
      have lock := fun (τ : xSt) (z1 : τ 111 25 = 0) (z2 : ∀ k, τ 135 k = σ 135 k) => best_lock (s1 := s1) (τ := τ) c8 c11 c12 d1 d2 d3 d4 h36 c10 x2 x3 x4 x5 x7 y12 z1 z2
      -- once with a stand-in, for the class
      obtain ⟨n1, n2, s2, s3, τ1, τ2, τ3, l1, l2, l3, l4, l5, l6, l7, l8, l9, l10, l11, l12⟩ := lock (fun a k => if a = 111 then 0 else σ a k) rfl (fun k => rfl)
      have Fa : Fr s_Best_buildSide s1 s2 := fr_Best_buildSide l1
      have Fb : Fr s_Best_buildSide s2 s3 := fr_Best_buildSide l2
      have t3 : s1 105 3 = σ 105 3 := y12 105 3 (by omega)
      have t4 : s2 105 4 = σ 105 4 := (Fa 105 4 rfl).trans (y12 105 4 (by omega))
      have t33 : s3 105 3 = σ 105 3 := (Fb 105 3 rfl).trans ((Fa 105 3 rfl).trans t3)
      have t34 : s3 105 4 = σ 105 4 := (Fb 105 4 rfl).trans t4
      have dp : w32 (1 + xmax (if σ 105 3 < 3 then 0 else 1) (if σ 105 4 < 3 then 0 else 1)) = ((max (if σ 105 3 < 3 then 0 else 1) (if σ 105 4 < 3 then 0 else 1) + 1 : Nat) : Int) := by
        by_cases q1 : σ 105 3 < 3
        · by_cases q2 : σ 105 4 < 3
          · simp only [if_pos q1, if_pos q2]
            rfl
          · simp only [if_pos q1, if_neg q2]
            rfl
        · by_cases q2 : σ 105 4 < 3
          · simp only [if_neg q1, if_pos q2]
            rfl
          · simp only [if_neg q1, if_neg q2]
            rfl
      have thr : ∀ (p : Int) (s : xSt), f_Best_thrownAfter p s = some (if p < 3 then 0 else 1) := fun p s => by
        unfold f_Best_thrownAfter
        split <;> rfl
      have hX : f_X_take σ = some (1, upS s3 16 1 ((max (if σ 105 3 < 3 then 0 else 1) (if σ 105 4 < 3 then 0 else 1) + 1 : Nat) : Int)) := by
        unfold f_X_take f_Best_build f_Way_clear
        have r105 : (upS (upS σ 16 0 0) 16 1 0) 105 2 = σ 105 2 := by rw [upS_rd, if_neg (by omega), upS_rd, if_neg (by omega)]
        rw [if_neg (by omega), if_pos h1, xlet_s, xlet_s, xbR_s, r105]
        rw [c0n] at x1
        rw [x1, xbW_s, t3, l1, xbR_s, t4, l2, xbR_s, t33, thr, xbR_s, t34, thr, xbR_s, dp, xlet_s, xbR_s]
      have FX := fr_X_take hX
      generalize hs4 : upS s3 16 1 ((max (if σ 105 3 < 3 then 0 else 1) (if σ 105 4 < 3 then 0 else 1) + 1 : Nat) : Int) = s4 at hX FX
      have kL : Fr s_tk (gLay (σ 111 22) σ) (gLay (σ 111 22) (upS s4 111 0 0)) := gLay_fr (Fr.up (Fr.mono FX rfl) rfl rfl)
      have f22 : (upS s4 111 0 0) 111 22 = σ 111 22 := FX 111 22 rfl
      have gk : ∀ a k, (a = 111 → k ≠ 22 ∧ k ≠ 0) → (a = 113 → k ≠ 2) → gLay (σ 111 22) (upS s4 111 0 0) a k = s4 a k := fun a k g1 g2 => by
        rw [gLay_k (fun z => (g1 z).1) g2, upS_rd, if_neg (fun z => (g1 z.1).2 z.2)]
      obtain ⟨m1, m2, s2', s3', τ1', τ2', τ3', k1, k2, k3, k4, k5, k6, k7, k8, k9, k10, k11, k12⟩ := lock (upS (gLay (σ 111 22) (upS s4 111 0 0)) 111 25 0) (by rw [upS_rd, if_pos ⟨rfl, rfl⟩]) (fun k => by rw [upS_rd, if_neg (by omega), gk 135 k (by omega) (by omega)]; exact FX 135 k rfl)
      rw [l1] at k1
      obtain rfl := Option.some.inj k1
      rw [l2] at k2
      obtain rfl := Option.some.inj k2
      obtain rfl : m2 = n2 := by
        have := k8.symm.trans l8
        omega
      obtain ⟨M, o1, o2, o3, o4, o5⟩ := m_take83 (n := m2) (by omega) (8 * m2) 1000000 0 (upS τ3' 115 3 (m1 : Int)) (by omega) (by rw [upS_rd, if_neg (by omega)]; exact k9) (by omega)
      rw [c0n] at o1
      have F1 : Fr s_tk (gLay (σ 111 22) σ) τ1' := Fr.call (Fr.up kL rfl rfl) (fr_M_lays k3) rfl
      have F2 : Fr s_tk (gLay (σ 111 22) σ) τ2' := Fr.call F1 (fr_M_laySide (n := 60) k4) rfl
      have F3 : Fr s_tk (gLay (σ 111 22) σ) τ3' := Fr.call (Fr.up F2 rfl rfl) (fr_M_laySide (n := 60) k5) rfl
      have F4 : Fr s_tk (gLay (σ 111 22) σ) M := Fr.tr F3 (fun a k hk => by
        have hne : a ≠ 113 := by
          rintro rfl
          have : inS s_tk 113 k = true := rfl
          rw [this] at hk
          cases hk
        have hne2 : a ≠ 115 := by
          rintro rfl
          have : inS s_tk 115 k = true := rfl
          rw [this] at hk
          cases hk
        rw [o5 a k hne, upS_rd, if_neg (fun z => hne2 z.1)])
      -- the class's part of the end
      have L1 : Fr s_M_lays (upS (gLay (σ 111 22) (upS s4 111 0 0)) 111 25 0) τ1' := fr_M_lays k3
      have L2 : Fr s_M_laySide τ1' τ2' := fr_M_laySide (n := 60) k4
      have L3 : Fr s_M_laySide (upS τ2' 115 2 1) τ3' := fr_M_laySide (n := 60) k5
      have no1 : ∀ a k, a ≠ 111 → a ≠ 115 → inS s_M_lays a k = false := fun a k h1 h2 => inS_no (fun e he => by
        rcases List.mem_cons.mp he with rfl | he
        · exact h1.symm
        · obtain rfl := List.mem_singleton.mp he
          exact h2.symm)
      have no2 : ∀ a k, a ≠ 111 → a ≠ 115 → inS s_M_laySide a k = false := no1
      have cl : ∀ a k, (a ≤ 25 ∨ a = 105) → M a k = s4 a k := by
        intro a k ha
        have n1 : a ≠ 111 := by omega
        have n2 : a ≠ 115 := by omega
        have n3 : a ≠ 113 := by omega
        have e1 : M a k = τ3' a k := by rw [o5 a k n3, upS_ne n2]
        have e2 : τ3' a k = τ2' a k := by rw [L3 a k (no2 a k n1 n2), upS_ne n2]
        have e3 : τ2' a k = τ1' a k := L2 a k (no2 a k n1 n2)
        have e4 : τ1' a k = gLay (σ 111 22) (upS s4 111 0 0) a k := by rw [L1 a k (no1 a k n1 n2), upS_ne n1]
        rw [e1, e2, e3, e4, gk a k (fun z => absurd z n1) (fun z => absurd z n3)]
      have s4k : ∀ a k, (a = 16 → k ≠ 1) → s4 a k = s3 a k := fun a k ha => by rw [← hs4, upS_rd, if_neg (fun z => ha z.1 z.2)]
      have s41 : s4 16 1 = ((max (if σ 105 3 < 3 then 0 else 1) (if σ 105 4 < 3 then 0 else 1) + 1 : Nat) : Int) := by rw [← hs4, upS_rd, if_pos ⟨rfl, rfl⟩]
      have t113 : ∀ k : Nat, (k < 41 ∨ 682 ≤ k) → M 113 k = gLay (σ 111 22) σ 113 k := fun k hk => by
        rw [o4 k (by omega), upS_ne (by decide), L3 113 k rfl, upS_ne (by decide), L2 113 k rfl, L1 113 k rfl, upS_ne (by decide)]
        exact gLay_cg (by rw [upS_ne (by decide)]; exact FX 113 k rfl)
      have hW : WayR M 7 16 113 0 := by
        refine way_fin (σ := s3) (τ := upS τ3' 115 3 (m1 : Int)) (n := m2) (m := max (if σ 105 3 < 3 then 0 else 1) (if σ 105 4 < 3 then 0 else 1) + 1) ?_ l7 (by omega) ?_ k10 (fun k => ?_) (fun k => ?_) (fun k => ?_) (fun k => ?_) (fun k => ?_) o2 (fun q hq => o3 q (by omega) hq) ?_ ?_
        · rw [cl 16 0 (by omega), s4k 16 0 (by omega)]
          exact l8
        · rw [cl 16 1 (by omega), s41]
        · rw [cl _ k (by omega), s4k _ k (by omega)]
        · rw [cl _ k (by omega), s4k _ k (by omega)]
        · rw [cl _ k (by omega), s4k _ k (by omega)]
        · rw [cl _ k (by omega), s4k _ k (by omega)]
        · rw [cl _ k (by omega), s4k _ k (by omega)]
        · refine Sub_rng (fun k => ?_) (fun k => ?_) (fun k hk => ?_) 6 _ _ _ (fun i _ _ => ⟨?_, ?_, fun s _ => ?_⟩) (fun i _ _ => ⟨?_, ?_⟩) l11
          · rw [cl _ k (by omega), s4k _ k (by omega)]
          · rw [cl _ k (by omega), s4k _ k (by omega)]
          · have e1 : s3 7 1 = σ 7 1 := (Fb 7 1 rfl).trans ((Fa 7 1 rfl).trans (y12 7 1 (by omega)))
            have e2 : s3 (7 + 3) k = σ 10 k := (Fb 10 k rfl).trans ((Fa 10 k rfl).trans (y12 10 k (by omega)))
            rw [e2]
            rw [e1] at hk
            exact h36 k hk
          · rw [cl _ _ (by omega), s4k _ _ (by omega)]
          · rw [cl _ _ (by omega), s4k _ _ (by omega)]
          · rw [cl _ _ (by omega), s4k _ _ (by omega)]
          · rw [cl _ _ (by omega), s4k _ _ (by omega)]
          · rw [cl _ _ (by omega), s4k _ _ (by omega)]
        · rw [cl _ _ (by omega), s4k _ _ (by omega)]
          exact l12
      obtain ⟨p1, p2, p3, p4, p5, p6, p7, p8⟩ := hIG
      have cg : ∀ a k, (7 ≤ a ∧ a ≤ 15 ∨ 22 ≤ a ∧ a ≤ 25) → M a k = gLay (σ 111 22) σ a k := fun a k ha => F4 a k (inS_no (fun e he => by
        unfold s_tk at he
        simp only [List.mem_cons, List.not_mem_nil, or_false] at he
        rcases he with rfl | rfl | rfl | rfl | rfl | rfl | rfl | rfl | rfl <;> (dsimp only; omega)))
      obtain ⟨w1, w2, w3⟩ := tws_way p2 p4 h22 cg (F4 111 22 rfl) (fun k => F4 117 k rfl) t113 hW
      refine ⟨1, s4, M, hX, ?_, ⟨p1.ag (F4.ag rfl), w1, w2, w3, p5.ag (F4.ag rfl), p6.ag (F4.ag rfl), p7.ag (F4.ag rfl), p8.ag (F4.ag rfl)⟩, ?_⟩
      · unfold f_M_take f_M_laySide
        have r58 : gLay (σ 111 22) (upS s4 111 0 0) 111 58 = σ 111 58 := (gk 111 58 (by omega) (by omega)).trans (FX 111 58 rfl)
        have r59 : gLay (σ 111 22) (upS s4 111 0 0) 111 59 = σ 111 59 := (gk 111 59 (by omega) (by omega)).trans (FX 111 59 rfl)
        have r3 : gLay (σ 111 22) (upS s4 111 0 0) 113 3 = σ 113 3 := (gk 113 3 (by omega) (by omega)).trans (FX 113 3 rfl)
        have r133 : (upS (gLay (σ 111 22) (upS s4 111 0 0)) 111 25 0) 133 0 = σ 133 0 := by rw [upS_rd, if_neg (by omega), gk 133 0 (by omega) (by omega)]; exact FX 133 0 rfl
        have r133b : τ1' 133 1 = σ 133 1 := by rw [L1 133 1 rfl, upS_rd, if_neg (by omega), gk 133 1 (by omega) (by omega)]; exact FX 133 1 rfl
        have r133c : (upS τ2' 115 2 1) 133 2 = σ 133 2 := by rw [upS_rd, if_neg (by omega), L2 133 2 rfl, L1 133 2 rfl, upS_rd, if_neg (by omega), gk 133 2 (by omega) (by omega)]; exact FX 133 2 rfl
        rw [xlet_s, gLay_f f22, xbR_s, r58, if_neg c58, r59, r3, if_pos (by rw [← t0, ← h1, c3]), xlet_s, r133, k3, xbW_s, r133b, k4, xbW_s, xlet_s, r133c, k5, xbW_s, xlet_s, o1]
      · exact (F4 0 7 rfl).trans (gLay_k (by omega) (by omega))
    · refine ⟨0, σ, gLay (σ 111 22) (upS σ 111 0 0), ?_, ?_, hIn, g7⟩
      · unfold f_X_take
        rw [if_neg (by omega), if_neg h1]
      · unfold f_M_take
        have r58 : gLay (σ 111 22) (upS σ 111 0 0) 111 58 = σ 111 58 := by rw [gLay_k (by omega) (by omega), upS_rd, if_neg (by omega)]
        have r59 : gLay (σ 111 22) (upS σ 111 0 0) 111 59 = σ 111 59 := by rw [gLay_k (by omega) (by omega), upS_rd, if_neg (by omega)]
        have r3 : gLay (σ 111 22) (upS σ 111 0 0) 113 3 = σ 113 3 := by rw [gLay_k (by omega) (by omega), upS_rd, if_neg (by omega)]
        rw [xlet_s, gLay_f e22, xbR_s, r58, if_neg c58, r59, r3, if_neg (fun z => h1 (by rw [c3, z, t0]))]
