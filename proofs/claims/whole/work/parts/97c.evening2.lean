/-! EVENINGS: read in lock-step -/
def evV (a q : Nat) : Prop := a = 111 ∧ 34 ≤ q ∧ q ≤ 40
def evW (a : Nat) : Prop := a = 96
def EvR (G σ0 τ0 : xSt) (d : Nat → Int) (n c i l : Nat) (σ τ : xSt) : Prop := LR d n 600 c i σ τ ∧ σ 2 9 = 0 ∧ τ 111 10 = 0 ∧ KpX evW σ0 σ ∧ KpM evV τ0 τ ∧ EvJ G l σ τ ∧ σ 96 0 = (l : Int) ∧ τ 111 35 = (l : Int) ∧ 3 * l ≤ i
/-- how it ended without a FAULT -/
def EvF (G σ0 τ0 : xSt) (σ τ : xSt) : Prop := (∃ l, EvJ G l σ τ) ∧ σ 2 9 = 0 ∧ τ 111 10 = 0 ∧ KpX evW σ0 σ ∧ KpM evV τ0 τ
/-- how it ended with one -/
def EvB (σ0 τ0 : xSt) (σ τ : xSt) : Prop := Flt σ τ ∧ KpX evW σ0 σ ∧ KpM evV τ0 τ
theorem xnb0 : xnb 0 = 0 := rfl
theorem namM1 {τ : xSt} (h : f_M_isName τ = some 1) : τ 111 7 = 2 := by
  unfold f_M_isName at h
  by_cases z1 : τ 111 7 = 2
  · exact z1
  · rw [if_neg z1] at h
    cases h
theorem m_noName {G τ τ' : xSt} (h : Inv0 G) (e2 : ∀ q, τ 113 q = G 113 q) (hn : f_M_isName τ = some 0) (hb : f_M_bad 1 τ = some (0, τ')) : f_M_readThrow τ = some (0, τ') := by
  obtain ⟨h1, h2, h3⟩ := h.things
  obtain ⟨N, hN⟩ : ∃ N : Nat, τ 113 0 = (N : Int) := ⟨(τ 113 0).toNat, by rw [e2, ← h1]; omega⟩
  have hN3 : N ≤ 3 := by
    have := e2 0
    omega
  obtain ⟨v, hv⟩ := find_some (τ := τ) (on := 0) (N := N) (q := τ 111 12) (by omega)
  rw [c0n] at hv
  unfold f_M_readThrow f_M_things
  rw [xbR_s, hN, hv, xbR_s, hn, xbR_s, if_pos rfl, hb, xbW_s]
  rfl
section
variable {G σ0 τ0 : xSt} {d : Nat → Int} {n c : Nat}
theorem throw_lock (hG : Inv0 G) (hX : ∀ a q, 7 ≤ a → a ≤ 21 → σ0 a q = G a q) (h113 : ∀ q, τ0 113 q = G 113 q) (h117 : ∀ q, τ0 117 q = G 117 q) {i l : Nat} {σ τ : xSt} (hR : EvR G σ0 τ0 d n c i l σ τ) :
    (∃ σ' τ', f_Judge_readThrow σ = some (1, σ') ∧ f_M_readThrow τ = some (1, τ') ∧ σ' 96 0 = (l : Int) ∧ EvR G σ0 τ0 d n c (i + 3) (l + 1) (upS σ' 96 0 ((l + 1 : Nat) : Int)) τ') ∨
    (∃ σ' τ', f_Judge_readThrow σ = some (0, σ') ∧ f_M_readThrow τ = some (0, τ') ∧ EvB σ0 τ0 σ' τ') := by
  obtain ⟨hL, h9, h10, kX, kM, J, hl1, hl2, hli⟩ := hR
  have e1 : ∀ {σ : xSt}, KpX evW σ0 σ → ∀ a q, 7 ≤ a → a ≤ 21 → σ a q = G a q := fun k a q z1 z2 => (k a q (by omega) (fun y => by unfold evW at y; omega)).trans (hX a q z1 z2)
  have e2 : ∀ {τ : xSt}, KpM evV τ0 τ → ∀ q, τ 113 q = G 113 q := fun k q => (k 113 q (fun z => by omega) (fun y => by unfold evV at y; omega)).trans (h113 q)
  have e3 : ∀ {τ : xSt}, KpM evV τ0 τ → ∀ q, τ 117 q = G 117 q := fun k q => (k 117 q (fun z => by omega) (fun y => by unfold evV at y; omega)).trans (h117 q)
  rcases hL.hand.name with ⟨n1, n2, n3⟩ | ⟨n1, n2⟩
  · obtain ⟨q1, v, q2, q3, q4⟩ := thing_find hG (fun a q z1 z2 => e1 kX a q z1 (by omega)) (e2 kM) (e3 kM) n3
    by_cases hv : v = -1
    · obtain ⟨σ', τ', a1, a2, a3, a4, a5, a6⟩ := hL.hand.fail h9 (p := 3) (fun z => by
        have := namM1 n2
        omega)
      refine Or.inr ⟨σ', τ', ?_, ?_, a3, kX.fail a5, kM.bad a6⟩
      · unfold f_Judge_readThrow
        rw [n1, xbR_s, if_neg (by decide), q2, xbR_s, if_pos hv, a1, xbW_s]
        rfl
      · unfold f_M_readThrow
        rw [q1, xbR_s, q3, xbR_s, n2, xbR_s, if_neg (by decide), if_pos hv, a2, xbW_s]
        rfl
    · obtain ⟨t, ht⟩ : ∃ t : Nat, v = (t : Int) := ⟨v.toNat, by omega⟩
      have s4 := nam1 n1
      obtain ⟨σ1, τ1, b1, b2, b3, b4, b5⟩ := hL.go1 (by omega) (by omega)
      have h91 : σ1 2 9 = 0 := by rw [b4 2 9 (fun _ => by decide)]; exact h9
      rcases num_lock b3 h91 0 999 with ⟨r1, r2, σ2, τ2, p1, p2, p3, p4, p5, p6, p7⟩ | ⟨σ2, τ2, p1, p2, p3, p4, p5, p6⟩
      · have h92 : σ2 2 9 = 0 := by rw [p6 2 9 (fun _ => by decide)]; exact h91
        rcases pass_lock p4 h92 59 with ⟨σ3, τ3, w1, w2, w3, w4, w5⟩ | ⟨σ3, τ3, w1, w2, w3, w4, w5, w6⟩
        · have kX3 := ((kX.step b4).step p6).step w4
          have kM3 := ((kM.go b5).num p7).go w5
          have f96 : ∀ q, σ3 96 q = σ 96 q := fun q => by rw [w4 96 q (fun z => absurd z (by decide)), p6 96 q (fun z => absurd z (by decide)), b4 96 q (fun z => absurd z (by decide))]
          have f111 : ∀ q, (q < 3 ∨ 13 < q ∨ q = 10) → τ3 111 q = τ 111 q := fun q z => by rw [w5 111 q (fun _ => by omega), p7 111 q (fun _ => by omega), upS_nk (by omega), b5 111 q (fun _ => by omega)]
          have J3 : EvJ G l σ3 τ3 := J.cg (fun q _ _ => f96 q) (fun q z1 z2 z3 => f111 q (by omega))
          have h13 : τ3 111 13 = σ1 2 7 := by rw [w5 111 13 (fun _ => by decide), p5]
          have hl100 : l < 100000 := by
            have z1 := hL.2.2.1
            have z2 := hL.2.2.2.1
            omega
          obtain ⟨σ4, τ4, j1, j2, j3, j4, j5⟩ := judge_lock (K := f_M_readThrow_87) (t := t) (s := σ1 2 7) hG (e1 kX3) (e2 kM3) J3 (by rw [f96, hl1, f111 35 (by omega), hl2]) hl100 (by omega) r1
          have g35 : τ4 111 35 = (l : Int) := by rw [j5 111 35 (fun _ => by omega), f111 35 (by omega), hl2]
          refine Or.inl ⟨σ4, upS τ4 111 35 ((l + 1 : Nat) : Int), ?_, ?_, ?_, ?_, ?_, ?_, ?_, ?_, ?_, ?_, ?_, by omega⟩
          · unfold f_Judge_readThrow
            rw [n1, xbR_s, if_neg (by decide), q2, xbR_s, if_neg hv, b1, xbR_s, p1, xbW_s, if_neg (by decide), xlet_s, p2, xbR_s, w1, xbW_s, if_neg (by decide), ht, j1, xbR_s]
          · have e87 : f_M_readThrow_87 τ4 = some (1, upS τ4 111 35 ((l + 1 : Nat) : Int)) := by
              unfold f_M_readThrow_87
              rw [xlet_s, g35, w32_n1 hl100]
            unfold f_M_readThrow
            rw [q1, xbR_s, q3, xbR_s, n2, xbR_s, if_neg (by decide), if_neg hv, b2, xbR_s, p3, xbW_s, if_neg (by decide), w2, xbW_s, if_neg (by decide), h13, ht, j2, e87]
          · rw [j4 96 0 (fun _ => Or.inl rfl), f96, hl1]
          · exact w3.cg (fun a k z1 z2 => by rw [upS_ne (by omega), j4 a k (fun z => by omega)]) (fun q z1 z2 => by rw [upS_nk (by omega), j5 111 q (fun _ => by omega)]) (fun q => by rw [upS_ne (by decide), j5 112 q (fun z => absurd z (by decide))])
          · rw [upS_ne (by decide), j4 2 9 (fun z => absurd z (by decide)), w4 2 9 (fun _ => by decide), h92]
          · rw [upS_nk (by decide), j5 111 10 (fun _ => by omega), f111 10 (by omega), h10]
          · exact (kX3.st (fun a q z1 z2 => j4 a q (fun y => absurd y z2))).st (fun a q z1 z2 => upS_ne z2)
          · refine (kM3.st (fun a q z1 z2 => j5 a q (fun y => ?_))).st (fun a q z1 z2 => ?_)
            · unfold evV at z2
              omega
            · rw [upS_rd, if_neg (fun y => z2 ⟨y.1, by omega, by omega⟩)]
          · exact j3.cg (fun q z1 z2 => upS_nk (by omega)) (fun q z1 z2 z3 => upS_nk z3)
          · exact upS_eq
          · exact upS_eq
        · refine Or.inr ⟨σ3, τ3, ?_, ?_, w3, ((kX.step b4).step p6).fail w5, ((kM.go b5).num p7).bad w6⟩
          · unfold f_Judge_readThrow
            rw [n1, xbR_s, if_neg (by decide), q2, xbR_s, if_neg hv, b1, xbR_s, p1, xbW_s, if_neg (by decide), xlet_s, p2, xbR_s, w1, xbW_s, if_pos rfl]
          · unfold f_M_readThrow
            rw [q1, xbR_s, q3, xbR_s, n2, xbR_s, if_neg (by decide), if_neg hv, b2, xbR_s, p3, xbW_s, if_neg (by decide), w2, xbW_s, if_pos rfl]
      · refine Or.inr ⟨σ2, τ2, ?_, ?_, p3, (kX.step b4).fail p5, (kM.go b5).bad p6⟩
        · unfold f_Judge_readThrow
          rw [n1, xbR_s, if_neg (by decide), q2, xbR_s, if_neg hv, b1, xbR_s, p1, xbW_s, if_pos rfl]
        · unfold f_M_readThrow
          rw [q1, xbR_s, q3, xbR_s, n2, xbR_s, if_neg (by decide), if_neg hv, b2, xbR_s, p2, xbW_s, if_pos rfl]
  · obtain ⟨σ', τ', a1, a2, a3, a4, a5, a6⟩ := hL.hand.fail h9 (p := 1) (fun _ => rfl)
    refine Or.inr ⟨σ', τ', ?_, m_noName hG (e2 kM) n2 a2, a3, kX.fail a5, kM.bad a6⟩
    unfold f_Judge_readThrow
    rw [n1, xbR_s, if_pos rfl, a1, xbW_s]
    rfl
theorem judgeSo_lock {l e : Nat} {σ τ : xSt} (hG : Inv0 G) (e1 : ∀ a q, 7 ≤ a → a ≤ 21 → σ a q = G a q) (e2 : ∀ q, τ 113 q = G 113 q) (J : EvJ G l σ τ) (hl : σ 96 0 = τ 111 35) :
    ∃ σ' τ', f_Judge_judgeSo (e : Int) σ = some σ' ∧ (if τ 111 36 = 0 then (xbR (f_M_sortOf (τ 111 34) τ) fun r12 => if r12 = 0 then (xbR (f_M_whichOf (τ 111 34) τ) fun r13 => if r13 = (e : Int) then (f_M_readSo_113 0 τ) else (f_M_readSo_113 5 τ)) else (f_M_readSo_113 4 τ)) else (f_M_readSo_116 τ)) = f_M_readSo_116 τ' ∧ EvJ G (l + 1) σ' τ' ∧ (∀ a q, (a = 96 → q = 0 ∨ 6 ≤ q) → σ' a q = σ a q) ∧ ∀ a q, (a = 111 → q < 34 ∨ q = 35 ∨ 40 < q) → τ' a q = τ a q := by
  obtain ⟨k, r, j1, j2, j3, j4, j5, j6, j7, j8, j9, j10, j11⟩ := id J
  have c113 : ∀ p : Int, f_M_readSo_113 p τ = f_M_readSo_116 (upS (upS τ 111 36 p) 111 37 (if p = 0 then -1 else τ 111 35)) := fun p => by
    unfold f_M_readSo_113
    rw [m_line, xbR_s]
  by_cases hw : σ 96 3 = 0
  · have hw2 : τ 111 36 = 0 := by rw [← j5]; exact hw
    obtain ⟨n1, n2, n3⟩ := hG.nodes
    obtain ⟨d1, d2, d3, -, d5⟩ := hG.nd (p := (k : Int)) (Int.natCast_nonneg k) j3
    rw [Int.toNat_natCast] at d1 d2 d3 d5
    have k80 : (k : Int) < 80 := by omega
    have s16 : σ 16 0 = G 16 0 := e1 16 0 (by decide) (by decide)
    have xs : f_Way_sortAt (k : Int) σ = some (G 17 k) := by rw [x_sortAt (by rw [s16]; exact n3), s16, if_pos ⟨Int.natCast_nonneg k, j3⟩, Int.toNat_natCast, e1 17 k (by decide) (by decide)]
    have xw : f_Way_whichAt (k : Int) σ = some (G 18 k) := by rw [x_whichAt (by rw [s16]; exact n3), s16, if_pos ⟨Int.natCast_nonneg k, j3⟩, Int.toNat_natCast, e1 18 k (by decide) (by decide)]
    have ms : f_M_sortOf (k : Int) τ = some (G 17 k) := by rw [m_sortOf (Int.natCast_nonneg k) k80, Int.toNat_natCast, e2, d1]
    have mw : f_M_whichOf (k : Int) τ = some (G 18 k) := by rw [m_whichOf (Int.natCast_nonneg k) k80, Int.toNat_natCast, e2, d2]
    have cE : f_Way_endAt (k : Int) σ = some (if G 17 k = 0 then G 18 k else -1) := by
      unfold f_Way_endAt
      rw [xs, xbR_s]
      by_cases z : G 17 k = 0
      · rw [if_pos z, if_pos z, xw, xbR_s]
      · rw [if_neg z, if_neg z]
    have fr2 : ∀ (p : Int), (∀ a q, (a = 96 → q = 0 ∨ 6 ≤ q) → upS (upS σ 96 3 p) 96 2 (σ 96 0) a q = σ a q) ∧ ∀ x : Int, ∀ a q, (a = 111 → q < 34 ∨ q = 35 ∨ 40 < q) → upS (upS τ 111 36 p) 111 37 x a q = τ a q := fun p => ⟨fun a q z => by
        rw [upS_rd, if_neg (fun y => by
          have := z y.1
          omega), upS_rd, if_neg (fun y => by
          have := z y.1
          omega)], fun x a q z => by
        rw [upS_rd, if_neg (fun y => by
          have := z y.1
          omega), upS_rd, if_neg (fun y => by
          have := z y.1
          omega)]⟩
    by_cases z0 : G 17 k = 0
    · have g18 : G 18 k ≠ -1 := by omega
      rw [if_pos z0] at cE
      by_cases z1 : G 18 k = (e : Int)
      · refine ⟨σ, upS (upS τ 111 36 0) 111 37 (-1), ?_, ?_, ⟨k, r, j1, ?_, j3, ?_, ?_, j6, ?_, j8, ?_, by omega, ?_⟩, fun _ _ _ => rfl, (fr2 0).2 _⟩
        · unfold f_Judge_judgeSo
          rw [if_pos hw, j1, cE, xbR_s, if_neg g18, xbR_s, if_pos z1]
        · rw [if_pos hw2, j2, ms, xbR_s, if_pos z0, mw, xbR_s, if_pos z1, c113, if_pos rfl]
        · rw [upS_nk (by decide), upS_nk (by decide)]; exact j2
        · rw [upS_eq]; exact j6 hw
        · rw [upS_nk (by decide), upS_eq]; exact hw
        · rw [upS_nk (by decide), upS_nk (by decide)]; exact j7
        · rw [upS_nk (by decide), upS_nk (by decide)]; exact j9
        · rw [upS_nk (by decide), upS_nk (by decide)]; exact j11
      · refine ⟨_, _, ?_, ?_, blame_ev (p := 5) J hl (by decide), (fr2 5).1, (fr2 5).2 _⟩
        · unfold f_Judge_judgeSo
          rw [if_pos hw, j1, cE, xbR_s, if_neg g18, xbR_s, if_neg z1, x_blame, xbR_s]
        · rw [if_pos hw2, j2, ms, xbR_s, if_pos z0, mw, xbR_s, if_neg z1, c113]
    · rw [if_neg z0] at cE
      refine ⟨_, _, ?_, ?_, blame_ev (p := 4) J hl (by decide), (fr2 4).1, (fr2 4).2 _⟩
      · unfold f_Judge_judgeSo
        rw [if_pos hw, j1, cE, xbR_s, if_pos rfl, x_blame, xbR_s]
      · rw [if_pos hw2, j2, ms, xbR_s, if_neg z0, c113]
  · have hw2 : ¬ τ 111 36 = 0 := by rw [← j5]; exact hw
    refine ⟨σ, τ, ?_, by rw [if_neg hw2], ⟨k, r, j1, j2, j3, j4, j5, j6, j7, j8, j9, by omega, j11⟩, fun _ _ _ => rfl, fun _ _ _ => rfl⟩
    unfold f_Judge_judgeSo
    rw [if_neg hw]
theorem so_lock (hG : Inv0 G) (hX : ∀ a q, 7 ≤ a → a ≤ 21 → σ0 a q = G a q) (h113 : ∀ q, τ0 113 q = G 113 q) (h117 : ∀ q, τ0 117 q = G 117 q) {i l : Nat} {σ τ : xSt} (hR : EvR G σ0 τ0 d n c i l σ τ) (h3 : σ 2 6 = 3) :
    (∃ σ' τ', (xbW (f_Judge_readSo σ) fun r13 σ14 => if r13 = 0 then (some (0, σ14)) else (f_Judge_read_102 σ14)) = some (1, σ') ∧ f_M_readSo τ = some (1, τ') ∧ τ' 111 7 = 0 ∧ EvF G σ0 τ0 σ' τ') ∨
    (∃ σ' τ', (xbW (f_Judge_readSo σ) fun r13 σ14 => if r13 = 0 then (some (0, σ14)) else (f_Judge_read_102 σ14)) = some (0, σ') ∧ f_M_readSo τ = some (0, τ') ∧ EvB σ0 τ0 σ' τ') := by
  obtain ⟨hL0, h90, h100, kX0, kM0, J0, hl1, hl2, hli⟩ := hR
  have e1 : ∀ {σ : xSt}, KpX evW σ0 σ → ∀ a q, 7 ≤ a → a ≤ 21 → σ a q = G a q := fun k a q z1 z2 => (k a q (by omega) (fun y => by unfold evW at y; omega)).trans (hX a q z1 z2)
  have e2 : ∀ {τ : xSt}, KpM evV τ0 τ → ∀ q, τ 113 q = G 113 q := fun k q => (k 113 q (fun z => by omega) (fun y => by unfold evV at y; omega)).trans (h113 q)
  have e3 : ∀ {τ : xSt}, KpM evV τ0 τ → ∀ q, τ 117 q = G 117 q := fun k q => (k 117 q (fun z => by omega) (fun y => by unfold evV at y; omega)).trans (h117 q)
  obtain ⟨s, t, g1, g2, hL, g4, g5⟩ := hL0.go1 (by omega) (by omega)
  have kX := kX0.step g4
  have kM := kM0.go g5
  have h9 : s 2 9 = 0 := by rw [g4 2 9 (fun _ => by decide)]; exact h90
  rcases hL.hand.name with ⟨n1, n2, n3⟩ | ⟨n1, n2⟩
  · obtain ⟨q1, v, q2, q3, q4⟩ := end_find hG (fun a q z1 z2 => e1 kX a q z1 (by omega)) (e2 kM) (e3 kM) n3
    by_cases hv : v = -1
    · obtain ⟨σ', τ', a1, a2, a3, a4, a5, a6⟩ := hL.hand.fail h9 (p := 3) (fun z => by
        have := namM1 n2
        omega)
      refine Or.inr ⟨σ', τ', ?_, ?_, a3, kX.fail a5, kM.bad a6⟩
      · unfold f_Judge_readSo
        rw [g1, xbR_s, n1, xbR_s, if_neg (by decide), q2, xbR_s, if_pos hv, a1, xbW_s, xbW_s]
        rfl
      · unfold f_M_readSo
        rw [g2, xbR_s, n2, xbR_s, if_neg (by decide), q1, xbR_s, q3, xbR_s, if_pos hv, a2, xbW_s]
        rfl
    · obtain ⟨e, he⟩ : ∃ e : Nat, v = (e : Int) := ⟨v.toNat, by omega⟩
      have s4 := nam1 n1
      obtain ⟨σ1, τ1, b1, b2, b3, b4, b5⟩ := hL.go1 (by omega) (by omega)
      have h91 : σ1 2 9 = 0 := by rw [b4 2 9 (fun _ => by decide)]; exact h9
      rcases pass_lock b3 h91 59 with ⟨σ3, τ3, w1, w2, w3, w4, w5⟩ | ⟨σ3, τ3, w1, w2, w3, w4, w5, w6⟩
      · have kX3 := (kX.step b4).step w4
        have kM3 := (kM.go b5).go w5
        have f96 : ∀ q, σ3 96 q = σ 96 q := fun q => by rw [w4 96 q (fun z => absurd z (by decide)), b4 96 q (fun z => absurd z (by decide)), g4 96 q (fun z => absurd z (by decide))]
        have f111 : ∀ q, (q < 3 ∨ 13 < q ∨ q = 10) → τ3 111 q = τ 111 q := fun q z => by rw [w5 111 q (fun _ => by omega), b5 111 q (fun _ => by omega), g5 111 q (fun _ => by omega)]
        have J3 : EvJ G l σ3 τ3 := J0.cg (fun q _ _ => f96 q) (fun q z1 z2 z3 => f111 q (by omega))
        obtain ⟨σ4, τ4, j1, j2, j3, j4, j5⟩ := judgeSo_lock (e := e) hG (e1 kX3) (e2 kM3) J3 (by rw [f96, hl1, f111 35 (by omega), hl2])
        have kX4 : KpX evW σ0 σ4 := kX3.st (fun a q z1 z2 => j4 a q (fun y => absurd y z2))
        have kM4 : KpM evV τ0 τ4 := kM3.st (fun a q z1 z2 => j5 a q (fun y => by
          unfold evV at z2
          omega))
        have L4 : LR d n 600 c (i + 1 + 1 + 1) σ4 τ4 := w3.cg (fun a k z1 z2 => j4 a k (fun z => by omega)) (fun q z1 z2 => j5 111 q (fun _ => by omega)) (fun q => j5 112 q (fun z => absurd z (by decide)))
        have h94 : σ4 2 9 = 0 := by rw [j4 2 9 (fun z => absurd z (by decide)), w4 2 9 (fun _ => by decide), h91]
        have hc : f_Judge_readSo σ = some (1, σ4) := by
          unfold f_Judge_readSo
          rw [g1, xbR_s, n1, xbR_s, if_neg (by decide), q2, xbR_s, if_neg hv, b1, xbR_s, w1, xbW_s, if_neg (by decide), he, j1, xbR_s]
        rw [hc, xbW_s, if_neg (by decide)]
        have k7 : τ4 111 7 = τ3 111 7 := j5 111 7 (fun _ => by omega)
        unfold f_Judge_read_102 f_Tokens_isDone
        by_cases hk : σ4 2 6 = 0
        · have hk2 : τ3 111 7 = 0 := by rw [← k7]; exact L4.hand.endd.mp hk
          refine Or.inl ⟨σ4, upS τ4 111 35 (w32 (τ4 111 35 + 1)), ?_, ?_, ?_, ⟨l + 1, ?_⟩, h94, ?_, kX4, ?_⟩
          · rw [if_pos hk, xbW_s]; rfl
          · have e116 : f_M_readSo_116 τ4 = some (1, upS τ4 111 35 (w32 (τ4 111 35 + 1))) := by
              unfold f_M_readSo_116
              rw [xlet_s]
            unfold f_M_readSo
            rw [g2, xbR_s, n2, xbR_s, if_neg (by decide), q1, xbR_s, q3, xbR_s, if_neg hv, b2, xbR_s, w2, xbW_s, if_neg (by decide), if_pos hk2, he, j2, e116]
          · rw [upS_nk (by decide), k7, hk2]
          · exact j3.cg (fun q z1 z2 => rfl) (fun q z1 z2 z3 => upS_nk z3)
          · rw [upS_nk (by decide), j5 111 10 (fun _ => by omega), f111 10 (by omega), h100]
          · exact kM4.st (fun a q z1 z2 => by rw [upS_rd, if_neg (fun y => z2 ⟨y.1, by omega, by omega⟩)])
        · have hk2 : ¬ τ3 111 7 = 0 := fun z => hk (L4.hand.endd.mpr (by rw [k7]; exact z))
          have L3 : LR d n 600 c (i + 1 + 1 + 1) σ4 τ3 := w3.cg (fun a k z1 z2 => j4 a k (fun z => by omega)) (fun q z1 z2 => rfl) (fun q => rfl)
          obtain ⟨σ', τ', a1, a2, a3, a4, a5, a6⟩ := L3.hand.fail h94 (p := 1) (fun _ => rfl)
          refine Or.inr ⟨σ', τ', ?_, ?_, a3, kX4.fail a5, kM3.bad a6⟩
          · rw [if_neg hk, a1, xbW_s, if_pos rfl, xbW_s]; rfl
          · unfold f_M_readSo
            rw [g2, xbR_s, n2, xbR_s, if_neg (by decide), q1, xbR_s, q3, xbR_s, if_neg hv, b2, xbR_s, w2, xbW_s, if_neg (by decide), if_neg hk2, a2, xbW_s]
            rfl
      · refine Or.inr ⟨σ3, τ3, ?_, ?_, w3, (kX.step b4).fail w5, (kM.go b5).bad w6⟩
        · unfold f_Judge_readSo
          rw [g1, xbR_s, n1, xbR_s, if_neg (by decide), q2, xbR_s, if_neg hv, b1, xbR_s, w1, xbW_s, if_pos rfl, xbW_s, if_pos rfl]
        · unfold f_M_readSo
          rw [g2, xbR_s, n2, xbR_s, if_neg (by decide), q1, xbR_s, q3, xbR_s, if_neg hv, b2, xbR_s, w2, xbW_s, if_pos rfl]
  · obtain ⟨σ', τ', a1, a2, a3, a4, a5, a6⟩ := hL.hand.fail h9 (p := 1) (fun _ => rfl)
    refine Or.inr ⟨σ', τ', ?_, ?_, a3, kX.fail a5, kM.bad a6⟩
    · unfold f_Judge_readSo
      rw [g1, xbR_s, n1, xbR_s, if_pos rfl, a1, xbW_s, xbW_s]
      rfl
    · unfold f_M_readSo
      rw [g2, xbR_s, n2, xbR_s, if_pos rfl, a2, xbW_s]
      rfl
/-- what the model does at the end -/
def evEnd (τ : xSt) : Option (Int × xSt) := xlet (upS τ 124 0 (τ 111 36)) fun σ13 =>
    xlet (upS σ13 124 1 (σ13 111 38)) fun σ14 =>
    xlet (upS σ14 124 2 (σ14 111 39)) fun σ15 =>
    xbR (f_M_sortOf (σ15 111 34) σ15) fun r16 =>
    if r16 = 0 then (xbR (f_M_whichOf (σ15 111 34) σ15) fun r17 =>
    f_M_evening_161 r17 3 σ15)
    else (f_M_evening_161 (-1) 3 σ15)
theorem ev_loop (hG : Inv0 G) (hX : ∀ a q, 7 ≤ a → a ≤ 21 → σ0 a q = G a q) (h113 : ∀ q, τ0 113 q = G 113 q) (h117 : ∀ q, τ0 117 q = G 117 q) : ∀ (j fu fu2 i l : Nat) (σ τ : xSt), l + j = 640 → j < fu → j + 1 < fu2 → EvR G σ0 τ0 d n c i l σ τ →
    (∃ σ' τ', f_Judge_read_30 fu σ = some (1, σ') ∧ f_M_evening_63 fu2 τ = evEnd τ' ∧ EvF G σ0 τ0 σ' τ') ∨
    (∃ σ' τ', f_Judge_read_30 fu σ = some (0, σ') ∧ f_M_evening_63 fu2 τ = some (w32 ((-2) - (τ' 111 11)), τ') ∧ EvB σ0 τ0 σ' τ') := by
  intro j
  induction j with
  | zero =>
    intro fu fu2 i l σ τ g1 g2 g3 hR
    obtain ⟨hL, h9, h10, kX, kM, J, hl1, hl2, hli⟩ := hR
    have z1 := hL.2.2.1
    have z2 := hL.2.2.2.1
    omega
  | succ j ih =>
    intro fu fu2 i l σ τ g1 g2 g3 hR
    obtain ⟨fu, rfl⟩ : ∃ n2, fu = n2 + 1 := ⟨fu - 1, by omega⟩
    obtain ⟨fu2, rfl⟩ : ∃ n2, fu2 = n2 + 1 + 1 := ⟨fu2 - 2, by omega⟩
    obtain ⟨hL, h9, h10, kX, kM, J, hl1, hl2, hli⟩ := id hR
    have z1 := hL.2.2.1
    have z2 := hL.2.2.2.1
    have hl600 : σ 96 0 < 600 := by omega
    have hh := hL.hand
    have e2 : ∀ q, τ 113 q = G 113 q := fun q => (kM 113 q (fun z => by omega) (fun y => by unfold evV at y; omega)).trans (h113 q)
    obtain ⟨v, v0, v1, v2⟩ := hh.word (a := 141) (k := 5) (by decide)
    have v2 : f_M_isWord 5 τ = some v := v2
    have x30 : f_Judge_read_30 (fu + 1) σ = (xbR (f_Tokens_isOut σ) fun r7 => if r7 = 0 then (xbR (f_Tokens_is 141 σ) fun r8 => if r8 = 0 then (xbW (f_Judge_readThrow σ) fun r9 σ10 => if r9 = 0 then (some (0, σ10)) else (xlet (upS σ10 96 0 (w32 ((σ10 96 0) + 1))) fun σ11 => f_Judge_read_30 fu σ11)) else (f_Judge_read_81 σ)) else (f_Judge_read_81 σ)) := by
      rw [f_Judge_read_30.eq_2, if_pos hl600]
    have m63 : f_M_evening_63 (fu2 + 1 + 1) τ = (if τ 111 7 = 0 then evEnd τ else (xbR (f_M_isWord 5 τ) fun r18 => if r18 = 0 then (xbW (f_M_readThrow τ) fun r19 σ20 => if r19 = 0 then (some (w32 ((-2) - (σ20 111 11)), σ20)) else (f_M_evening_63 (fu2 + 1) σ20)) else (xbW (f_M_readSo τ) fun r21 σ22 => if r21 = 0 then (some (w32 ((-2) - (σ22 111 11)), σ22)) else (f_M_evening_63 (fu2 + 1) σ22)))) := by
      rw [f_M_evening_63.eq_2]
      rfl
    have x81 : v = 0 → f_Judge_read_81 σ = f_Judge_read_102 σ := fun z => by
      unfold f_Judge_read_81
      rw [v1, xbR_s, if_pos z]
    by_cases k0 : σ 2 6 = 0
    · have hv : v = 0 := by
        rcases v0 with z | z
        · exact z
        · rw [z] at v1
          have := wrd1 (k := 5) (by decide) v1
          omega
      refine Or.inl ⟨σ, τ, ?_, by rw [m63, if_pos (hh.endd.mp k0)], ⟨l, J⟩, h9, h10, kX, kM⟩
      rw [x30]
      unfold f_Tokens_isOut
      rw [if_pos k0, xbR_s, if_neg (by decide), x81 hv]
      unfold f_Judge_read_102 f_Tokens_isDone
      rw [if_pos k0, xbW_s]
      rfl
    · have k7 : ¬ τ 111 7 = 0 := fun z => k0 (hh.endd.mpr z)
      rw [if_neg k7, v2, xbR_s] at m63
      by_cases k1 : σ 2 6 = 1
      · have hv : v = 0 := by
          rcases v0 with z | z
          · exact z
          · rw [z] at v1
            have := wrd1 (k := 5) (by decide) v1
            omega
        obtain ⟨σ', τ', a1, a2, a3, a4, a5, a6⟩ := hh.fail h9 (p := 1) (fun _ => rfl)
        have nn : f_M_isName τ = some 0 := by
          rcases hh.name with ⟨n1, n2, n3⟩ | ⟨n1, n2⟩
          · have := nam1 n1
            omega
          · exact n2
        rw [if_pos hv, m_noName hG e2 nn a2, xbW_s, if_pos rfl] at m63
        refine Or.inr ⟨σ', τ', ?_, m63, a3, kX.fail a5, kM.bad a6⟩
        rw [x30]
        unfold f_Tokens_isOut
        rw [if_neg k0, if_pos k1, xbR_s, if_neg (by decide), x81 hv]
        unfold f_Judge_read_102 f_Tokens_isDone
        rw [if_neg k0, a1, xbW_s, if_pos rfl, xbW_s]
        rfl
      · have x30b : f_Judge_read_30 (fu + 1) σ = (if v = 0 then (xbW (f_Judge_readThrow σ) fun r9 σ10 => if r9 = 0 then (some (0, σ10)) else (xlet (upS σ10 96 0 (w32 ((σ10 96 0) + 1))) fun σ11 => f_Judge_read_30 fu σ11)) else (f_Judge_read_81 σ)) := by
          rw [x30]
          unfold f_Tokens_isOut
          rw [if_neg k0, if_neg k1, xbR_s, if_pos rfl, v1, xbR_s]
        by_cases hv : v = 0
        · rw [if_pos hv] at x30b m63
          rcases throw_lock hG hX h113 h117 hR with ⟨σ', τ', a1, a2, a3, a4⟩ | ⟨σ', τ', a1, a2, a3⟩
          · have hl100 : l < 100000 := by omega
            rw [a1, xbW_s, if_neg (by decide), xlet_s, a3, w32_n1 hl100] at x30b
            rw [a2, xbW_s, if_neg (by decide)] at m63
            rw [x30b, m63]
            exact ih fu (fu2 + 1) (i + 3) (l + 1) _ τ' (by omega) (by omega) (by omega) a4
          · rw [a1, xbW_s, if_pos rfl] at x30b
            rw [a2, xbW_s, if_pos rfl] at m63
            exact Or.inr ⟨σ', τ', x30b, m63, a3⟩
        · rw [if_neg hv] at x30b m63
          have hv1 : v = 1 := by omega
          have x81b : f_Judge_read_81 σ = (xbW (f_Judge_readSo σ) fun r13 σ14 => if r13 = 0 then (some (0, σ14)) else (f_Judge_read_102 σ14)) := by
            unfold f_Judge_read_81
            rw [v1, xbR_s, if_neg hv]
          rw [x81b] at x30b
          rw [x30b]
          have h3 : σ 2 6 = 3 := wrd1 (a := 141) (k := 5) (by decide) (by rw [v1, hv1])
          rcases so_lock hG hX h113 h117 hR h3 with ⟨σ', τ', a1, a2, a3, a4⟩ | ⟨σ', τ', a1, a2, a3⟩
          · rw [a2, xbW_s, if_neg (by decide)] at m63
            have e63 : f_M_evening_63 (fu2 + 1) τ' = evEnd τ' := by
              rw [f_M_evening_63.eq_2, if_pos a3]
              rfl
            exact Or.inl ⟨σ', τ', a1, m63.trans e63, a4⟩
          · rw [a2, xbW_s, if_pos rfl] at m63
            exact Or.inr ⟨σ', τ', a1, m63, a3⟩
end
