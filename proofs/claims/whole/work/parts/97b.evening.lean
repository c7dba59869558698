/-! EVENINGS: one throw judged, on both sides -/
def EvJ (G : xSt) (l : Nat) (σ τ : xSt) : Prop := ∃ k r : Nat, σ 96 1 = (k : Int) ∧ τ 111 34 = (k : Int) ∧ (k : Int) < G 16 0 ∧ σ 96 2 = τ 111 37 ∧ σ 96 3 = τ 111 36 ∧ (σ 96 3 = 0 → σ 96 2 = -1) ∧ σ 96 4 = τ 111 38 ∧ σ 96 5 = (r : Int) ∧ τ 111 39 = (r : Int) ∧ r ≤ l ∧ τ 111 40 = (if k = 0 then 1 else 0)
theorem EvJ.cg {G : xSt} {l : Nat} {σ τ σ' τ' : xSt} (h : EvJ G l σ τ) (f : ∀ q, 1 ≤ q → q ≤ 5 → σ' 96 q = σ 96 q) (g : ∀ q, 34 ≤ q → q ≤ 40 → q ≠ 35 → τ' 111 q = τ 111 q) : EvJ G l σ' τ' := by
  obtain ⟨k, r, j1, j2, j3, j4, j5, j6, j7, j8, j9, j10, j11⟩ := h
  refine ⟨k, r, ?_, ?_, j3, ?_, ?_, ?_, ?_, ?_, ?_, j10, ?_⟩
  · rw [f 1 (by decide) (by decide)]; exact j1
  · rw [g 34 (by decide) (by decide) (by decide)]; exact j2
  · rw [f 2 (by decide) (by decide), g 37 (by decide) (by decide) (by decide)]; exact j4
  · rw [f 3 (by decide) (by decide), g 36 (by decide) (by decide) (by decide)]; exact j5
  · rw [f 3 (by decide) (by decide), f 2 (by decide) (by decide)]; exact j6
  · rw [f 4 (by decide) (by decide), g 38 (by decide) (by decide) (by decide)]; exact j7
  · rw [f 5 (by decide) (by decide)]; exact j8
  · rw [g 39 (by decide) (by decide) (by decide)]; exact j9
  · rw [g 40 (by decide) (by decide) (by decide)]; exact j11
theorem x_blame {p : Int} {σ : xSt} : f_Judge_blame p σ = some (upS (upS σ 96 3 p) 96 2 (σ 96 0)) := by
  unfold f_Judge_blame
  rw [xlet_s, xlet_s, upS_nk (by decide)]
theorem m_line {p : Int} {τ : xSt} : f_M_judgeLine p τ = some (upS (upS τ 111 36 p) 111 37 (if p = 0 then -1 else τ 111 35)) := by
  unfold f_M_judgeLine
  rw [xlet_s]
  by_cases h : p = 0
  · rw [if_pos h, if_pos h]
    unfold f_M_judgeLine_18
    rw [xlet_s]
  · rw [if_neg h, if_neg h]
    unfold f_M_judgeLine_18
    rw [xlet_s, upS_nk (by decide)]
theorem blame_ev {G σ τ : xSt} {l : Nat} (J : EvJ G l σ τ) (hl : σ 96 0 = τ 111 35) {p : Int} (hp : p ≠ 0) : EvJ G (l + 1) (upS (upS σ 96 3 p) 96 2 (σ 96 0)) (upS (upS τ 111 36 p) 111 37 (if p = 0 then -1 else τ 111 35)) := by
  obtain ⟨k, r, j1, j2, j3, j4, j5, j6, j7, j8, j9, j10, j11⟩ := J
  refine ⟨k, r, ?_, ?_, j3, ?_, ?_, ?_, ?_, ?_, ?_, by omega, ?_⟩
  · rw [upS_nk (by decide), upS_nk (by decide)]; exact j1
  · rw [upS_nk (by decide), upS_nk (by decide)]; exact j2
  · rw [upS_eq, upS_eq, if_neg hp]; exact hl
  · rw [upS_nk (by decide), upS_eq, upS_nk (by decide), upS_eq]
  · rw [upS_nk (by decide), upS_eq]
    exact fun z => absurd z hp
  · rw [upS_nk (by decide), upS_nk (by decide), upS_nk (by decide), upS_nk (by decide)]; exact j7
  · rw [upS_nk (by decide), upS_nk (by decide)]; exact j8
  · rw [upS_nk (by decide), upS_nk (by decide)]; exact j9
  · rw [upS_nk (by decide), upS_nk (by decide)]; exact j11
theorem m_why70 {G τ : xSt} {k s j : Nat} (e2 : ∀ q, τ 113 q = G 113 q) (hk : τ 111 34 = (k : Int)) (k80 : k < 80) (j80 : j < 80) (s6 : s < 6) (hj : G 113 (44 + 8 * k + s) = (j : Int)) (h40 : 0 < j) :
    ∃ τ', f_M_whyNot_70 (s : Int) τ = some (0, τ') ∧ τ' 111 34 = (((if G 113 (42 + 8 * j) = 1 then 0 else j : Nat)) : Int) ∧ τ' 111 38 = w32 (τ 111 38 + 1) ∧ τ' 111 40 = (if (if G 113 (42 + 8 * j) = 1 then 0 else j : Nat) = 0 then 1 else 0) ∧ ∀ a q, (a = 111 → q ≠ 34 ∧ q ≠ 38 ∧ q ≠ 40) → τ' a q = τ a q := by
  obtain ⟨u, hu⟩ : ∃ u, u = upS (upS (upS τ 111 40 0) 111 38 (w32 (τ 111 38 + 1))) 111 34 (j : Int) := ⟨_, rfl⟩
  have hn : f_M_nextOf (k : Int) (s : Int) (upS (upS τ 111 40 0) 111 38 (w32 (τ 111 38 + 1))) = some (j : Int) := by
    rw [m_nextOf (Int.natCast_nonneg k) (by omega) (Int.natCast_nonneg s) (by omega), Int.toNat_natCast, Int.toNat_natCast, upS_ne (by decide), upS_ne (by decide), e2, hj]
  have hso : f_M_sortOf (j : Int) u = some (G 113 (42 + 8 * j)) := by
    rw [m_sortOf (Int.natCast_nonneg j) (by omega), Int.toNat_natCast, hu, upS_ne (by decide), upS_ne (by decide), upS_ne (by decide), e2]
  have hu34 : u 111 34 = (j : Int) := by rw [hu, upS_eq]
  have hu38 : u 111 38 = w32 (τ 111 38 + 1) := by rw [hu, upS_nk (by decide), upS_eq]
  have hu40 : u 111 40 = 0 := by rw [hu, upS_nk (by decide), upS_nk (by decide), upS_eq]
  have huf : ∀ a q, (a = 111 → q ≠ 34 ∧ q ≠ 38 ∧ q ≠ 40) → u a q = τ a q := fun a q z => by
    rw [hu, upS_rd, if_neg (fun y => (z y.1).1 y.2), upS_rd, if_neg (fun y => (z y.1).2.1 y.2), upS_rd, if_neg (fun y => (z y.1).2.2 y.2)]
  have he : f_M_whyNot_70 (s : Int) τ = (if G 113 (42 + 8 * j) = 1 then (some (0, upS (upS u 111 34 0) 111 40 1)) else some (0, u)) := by
    unfold f_M_whyNot_70
    rw [xlet_s, xlet_s, upS_nk (by decide), upS_nk (by decide), upS_nk (by decide), hk, hn, xbR_s, xlet_s, ← hu, hu34, hso, xbR_s, xlet_s, xlet_s]
  by_cases hz : G 113 (42 + 8 * j) = 1
  · rw [if_pos hz] at he
    rw [if_pos hz]
    refine ⟨_, he, ?_, ?_, ?_, fun a q z => ?_⟩
    · rw [upS_nk (by decide), upS_eq]; rfl
    · rw [upS_nk (by decide), upS_nk (by decide), hu38]
    · rw [upS_eq, if_pos rfl]
    · rw [upS_rd, if_neg (fun y => (z y.1).2.2 y.2), upS_rd, if_neg (fun y => (z y.1).1 y.2), huf a q z]
  · rw [if_neg hz] at he
    rw [if_neg hz]
    refine ⟨u, he, hu34, hu38, ?_, huf⟩
    rw [hu40, if_neg (by omega)]
theorem judge_lock {G σ τ : xSt} {l t : Nat} {K : xSt → Option (Int × xSt)} (hG : Inv0 G) (e1 : ∀ a q, 7 ≤ a → a ≤ 21 → σ a q = G a q) (e2 : ∀ q, τ 113 q = G 113 q) (J : EvJ G l σ τ) (hl : σ 96 0 = τ 111 35) (hl2 : l < 100000) (ht : (t : Int) < G 7 1) {s : Int} (hs : 0 ≤ s) :
    ∃ σ' τ', f_Judge_judgeThrow (t : Int) s σ = some σ' ∧ (if τ 111 36 = 0 then (xbW (f_M_whyNot (t : Int) s τ) fun r13 σ14 => xbR (f_M_judgeLine r13 σ14) fun σ15 => K σ15) else K τ) = K τ' ∧ EvJ G (l + 1) σ' τ' ∧ (∀ a q, (a = 96 → q = 0 ∨ 6 ≤ q) → σ' a q = σ a q) ∧ ∀ a q, (a = 111 → q < 34 ∨ q = 35 ∨ 40 < q) → τ' a q = τ a q := by
  obtain ⟨k, r, j1, j2, j3, j4, j5, j6, j7, j8, j9, j10, j11⟩ := id J
  by_cases hw : σ 96 3 = 0
  · have hw2 : τ 111 36 = 0 := by rw [← j5]; exact hw
    obtain ⟨n1, n2, n3⟩ := hG.nodes
    obtain ⟨t1, t2, t3⟩ := hG.things
    obtain ⟨d1, d2, d3, -, d5⟩ := hG.nd (p := (k : Int)) (Int.natCast_nonneg k) j3
    rw [Int.toNat_natCast] at d1 d2 d3 d5
    have k80 : (k : Int) < 80 := by omega
    have s16 : σ 16 0 = G 16 0 := e1 16 0 (by decide) (by decide)
    have s17 : ∀ k, σ 17 k = G 17 k := fun k => e1 17 k (by decide) (by decide)
    have s18 : ∀ k, σ 18 k = G 18 k := fun k => e1 18 k (by decide) (by decide)
    have xs : f_Way_sortAt (k : Int) σ = some (G 17 k) := by rw [x_sortAt (by rw [s16]; exact n3), s16, if_pos ⟨Int.natCast_nonneg k, j3⟩, Int.toNat_natCast, s17]
    have xw : f_Way_whichAt (k : Int) σ = some (G 18 k) := by rw [x_whichAt (by rw [s16]; exact n3), s16, if_pos ⟨Int.natCast_nonneg k, j3⟩, Int.toNat_natCast, s18]
    have ms : f_M_sortOf (k : Int) τ = some (G 17 k) := by rw [m_sortOf (Int.natCast_nonneg k) k80, Int.toNat_natCast, e2, d1]
    have mw : f_M_whichOf (k : Int) τ = some (G 18 k) := by rw [m_whichOf (Int.natCast_nonneg k) k80, Int.toNat_natCast, e2, d2]
    have cE : f_Way_endAt (k : Int) σ = some (if G 17 k = 0 then G 18 k else -1) := by
      unfold f_Way_endAt
      rw [xs, xbR_s]
      by_cases z : G 17 k = 0
      · rw [if_pos z, if_pos z, xw, xbR_s]
      · rw [if_neg z, if_neg z]
    have fin : ∀ p : Int, p ≠ 0 → f_Judge_judgeThrow (t : Int) s σ = some (upS (upS σ 96 3 p) 96 2 (σ 96 0)) → f_M_whyNot (t : Int) s τ = some (p, τ) → ∃ σ' τ', f_Judge_judgeThrow (t : Int) s σ = some σ' ∧ (if τ 111 36 = 0 then (xbW (f_M_whyNot (t : Int) s τ) fun r13 σ14 => xbR (f_M_judgeLine r13 σ14) fun σ15 => K σ15) else K τ) = K τ' ∧ EvJ G (l + 1) σ' τ' ∧ (∀ a q, (a = 96 → q = 0 ∨ 6 ≤ q) → σ' a q = σ a q) ∧ ∀ a q, (a = 111 → q < 34 ∨ q = 35 ∨ 40 < q) → τ' a q = τ a q := by
      intro p hp z1 z2
      refine ⟨_, _, z1, ?_, blame_ev J hl hp, fun a q z => ?_, fun a q z => ?_⟩
      · rw [if_pos hw2, z2, xbW_s, m_line, xbR_s]
      · rw [upS_rd, if_neg (fun y => by
          have := z y.1
          omega), upS_rd, if_neg (fun y => by
          have := z y.1
          omega)]
      · rw [upS_rd, if_neg (fun y => by
          have := z y.1
          omega), upS_rd, if_neg (fun y => by
          have := z y.1
          omega)]
    have c55 : f_Judge_judgeThrow_55 σ = some (upS (upS σ 96 3 2) 96 2 (σ 96 0)) := by
      unfold f_Judge_judgeThrow_55
      rw [x_blame, xbR_s]
    by_cases z0 : G 17 k = 0
    · have g18 : G 18 k ≠ -1 := by omega
      refine fin 1 (by decide) ?_ ?_
      · unfold f_Judge_judgeThrow
        rw [if_pos hw, j1, cE, if_pos z0, xbR_s, if_neg g18, x_blame, xbR_s]
      · unfold f_M_whyNot
        rw [j2, ms, xbR_s, if_pos z0]
    · rw [if_neg z0] at cE
      by_cases z1 : G 17 k = 2
      · by_cases z2 : G 18 k = (t : Int)
        · obtain ⟨h1, h2, h3, -⟩ := hG.th (p := (t : Int)) (Int.natCast_nonneg t) ht
          rw [Int.toNat_natCast] at h1 h2 h3
          have t3b : (t : Int) < 3 := by omega
          have cS : f_Table_sidesOf (t : Int) σ = some (G 10 t) := by
            rw [x_sidesOf (by rw [e1 7 1 (by decide) (by decide)]; exact t3), e1 7 1 (by decide) (by decide), if_pos ⟨Int.natCast_nonneg t, ht⟩, Int.toNat_natCast, e1 10 t (by decide) (by decide)]
          have mS : f_M_sidesOf (t : Int) τ = some (G 10 t) := by
            rw [m_sidesOf (Int.natCast_nonneg t) t3b, Int.toNat_natCast, e2, h1]
          by_cases z3 : s < G 10 t
          · obtain ⟨sn, rfl⟩ : ∃ sn : Nat, s = (sn : Int) := ⟨s.toNat, by omega⟩
            obtain ⟨j, y1, y2, y3⟩ := hG.son (k := k) (s := sn) j3 z1 (by rw [z2, Int.toNat_natCast]; exact z3)
            have sn6 : sn < 6 := by omega
            have j80 : j < 80 := by omega
            obtain ⟨b1, -, -, -, -⟩ := hG.nd (p := (j : Int)) (Int.natCast_nonneg j) y3
            rw [Int.toNat_natCast] at b1
            have y4 : G 113 (44 + 8 * k + sn) = (j : Int) := by rw [← d3 sn sn6, y1]
            obtain ⟨k', hk'⟩ : ∃ k' : Nat, k' = (if G 113 (42 + 8 * j) = 1 then 0 else j : Nat) := ⟨_, rfl⟩
            have k'b : (k' : Int) < G 16 0 := by
              rw [hk']
              by_cases z : G 113 (42 + 8 * j) = 1
              · rw [if_pos z]; omega
              · rw [if_neg z]; exact y3
            -- the class
            have land : ∀ σ9 : xSt, (∀ a q, 7 ≤ a → a ≤ 21 → σ9 a q = G a q) → f_Way_landing (k : Int) (sn : Int) σ9 = some (k' : Int) := fun σ9 e9 => by
              unfold f_Way_landing
              have f16 : σ9 16 0 = G 16 0 := e9 16 0 (by decide) (by decide)
              rw [x_nextAt (by rw [f16]; exact n3), f16, if_pos ⟨⟨Int.natCast_nonneg k, j3⟩, Int.natCast_nonneg sn, by omega⟩, Int.toNat_natCast, Int.toNat_natCast, e9 21 _ (by decide) (by decide), y1, xbR_s, x_sortAt (by rw [f16]; exact n3), f16, if_pos ⟨Int.natCast_nonneg j, y3⟩, Int.toNat_natCast, e9 17 _ (by decide) (by decide), xbR_s, b1, hk']
              by_cases z : G 113 (42 + 8 * j) = 1
              · rw [if_pos z, if_pos z]; rfl
              · rw [if_neg z, if_neg z]
            obtain ⟨u, hu⟩ : ∃ u, u = upS σ 96 4 (w32 (σ 96 4 + 1)) := ⟨_, rfl⟩
            have u1 : u 96 1 = (k : Int) := by rw [hu, upS_nk (by decide), j1]
            have u5 : u 96 5 = (r : Int) := by rw [hu, upS_nk (by decide), j8]
            have c110 : ∀ (b : Int) (r' : Nat), w32 ((r : Int) + b) = (r' : Int) → f_Judge_judgeThrow_110 (sn : Int) b (r : Int) u = some (upS (upS u 96 5 (r' : Int)) 96 1 (k' : Int)) := fun b r' hb => by
              unfold f_Judge_judgeThrow_110
              rw [xlet_s, hb, upS_nk (by decide), u1, land _ (fun a q w1 w2 => by rw [upS_ne (by omega), hu, upS_ne (by omega), e1 a q w1 w2]), xbR_s, xlet_s]
            have r1 : r < 100000 := by omega
            have cls : f_Judge_judgeThrow (t : Int) (sn : Int) σ = some (upS (upS u 96 5 (((if k = 0 then r + 1 else r : Nat)) : Int)) 96 1 (k' : Int)) := by
              have hsn : 0 ≤ (sn : Int) ∧ (sn : Int) < G 10 t := ⟨Int.natCast_nonneg sn, z3⟩
              unfold f_Judge_judgeThrow
              rw [if_pos hw, j1, cE, xbR_s, if_pos rfl, xs, xbR_s, if_pos z1, xw, xbR_s, if_pos z2, cS, xbR_s, x_isWithin, if_pos hsn, xbR_s, if_neg (by decide), xlet_s, ← hu, u1, u5]
              by_cases zk : k = 0
              · rw [if_pos (show (k : Int) = 0 by omega), if_pos zk, c110 1 (r + 1) (w32_n1 r1)]
              · rw [if_neg (show ¬ (k : Int) = 0 by omega), if_neg zk, c110 0 r (w32_o (by omega) (by omega) |>.trans (Int.add_zero _))]
            -- the model
            have mdl : ∃ τ', f_M_whyNot (t : Int) (sn : Int) τ = some (0, τ') ∧ τ' 111 34 = (k' : Int) ∧ τ' 111 38 = w32 (τ 111 38 + 1) ∧ τ' 111 39 = (((if k = 0 then r + 1 else r : Nat)) : Int) ∧ τ' 111 40 = (if k' = 0 then 1 else 0) ∧ ∀ a q, (a = 111 → q ≠ 34 ∧ q ≠ 38 ∧ q ≠ 39 ∧ q ≠ 40) → τ' a q = τ a q := by
              have hd : f_M_whyNot (t : Int) (sn : Int) τ = (if k = 0 then f_M_whyNot_70 (sn : Int) (upS τ 111 39 (w32 ((τ 111 39) + 1))) else f_M_whyNot_70 (sn : Int) τ) := by
                unfold f_M_whyNot
                rw [j2, ms, xbR_s, if_neg z0, xbR_s, if_neg (show ¬ G 17 k = 1 by omega), mw, xbR_s, if_pos z2, mS, xbR_s, if_pos z3, j11]
                by_cases zk : k = 0
                · rw [if_pos zk, if_neg (by decide), if_pos zk, xlet_s]
                · rw [if_neg zk, if_pos rfl, if_neg zk]
              by_cases zk : k = 0
              · rw [if_pos zk] at hd
                obtain ⟨τ', w1, w2, w3, w4, w5⟩ := m_why70 (G := G) (τ := upS τ 111 39 (w32 ((τ 111 39) + 1))) (k := k) (s := sn) (j := j) (fun q => by rw [upS_ne (by decide)]; exact e2 q) (by rw [upS_nk (by decide)]; exact j2) (by omega) j80 sn6 y4 (by omega)
                rw [← hk'] at w2 w4
                refine ⟨τ', by rw [hd, w1], w2, ?_, ?_, w4, fun a q z => ?_⟩
                · rw [w3, upS_nk (by decide)]
                · rw [w5 111 39 (fun _ => by decide), upS_eq, if_pos zk, j9, w32_n1 r1]
                · rw [w5 a q (fun y => ⟨(z y).1, (z y).2.1, (z y).2.2.2⟩), upS_rd, if_neg (fun y => (z y.1).2.2.1 y.2)]
              · rw [if_neg zk] at hd
                obtain ⟨τ', w1, w2, w3, w4, w5⟩ := m_why70 (G := G) (τ := τ) (k := k) (s := sn) (j := j) e2 j2 (by omega) j80 sn6 y4 (by omega)
                rw [← hk'] at w2 w4
                refine ⟨τ', by rw [hd, w1], w2, w3, ?_, w4, fun a q z => ?_⟩
                · rw [w5 111 39 (fun _ => by decide), if_neg zk, j9]
                · exact w5 a q (fun y => ⟨(z y).1, (z y).2.1, (z y).2.2.2⟩)
            obtain ⟨τ', w1, w2, w3, w4, w5, w6⟩ := mdl
            refine ⟨_, upS (upS τ' 111 36 0) 111 37 (-1), cls, ?_, ⟨k', (if k = 0 then r + 1 else r), ?_, ?_, k'b, ?_, ?_, ?_, ?_, ?_, ?_, ?_, ?_⟩, fun a q z => ?_, fun a q z => ?_⟩
            · rw [if_pos hw2, w1, xbW_s, m_line, xbR_s, if_pos rfl]
            · rw [upS_eq]
            · rw [upS_nk (by decide), upS_nk (by decide), w2]
            · rw [upS_nk (by decide), upS_nk (by decide), hu, upS_nk (by decide), upS_eq]
              exact j6 hw
            · rw [upS_nk (by decide), upS_nk (by decide), hu, upS_nk (by decide), upS_nk (by decide), upS_eq]
              exact hw
            · intro _
              rw [upS_nk (by decide), upS_nk (by decide), hu, upS_nk (by decide)]
              exact j6 hw
            · rw [upS_nk (by decide), upS_nk (by decide), hu, upS_eq, upS_nk (by decide), upS_nk (by decide), w3, j7]
            · rw [upS_nk (by decide), upS_eq]
            · rw [upS_nk (by decide), upS_nk (by decide), w4]
            · by_cases zk : k = 0
              · rw [if_pos zk]; omega
              · rw [if_neg zk]; omega
            · rw [upS_nk (by decide), upS_nk (by decide), w5]
            · rw [upS_rd, if_neg (fun y => by
                have := z y.1
                omega), upS_rd, if_neg (fun y => by
                have := z y.1
                omega), hu, upS_rd, if_neg (fun y => by
                have := z y.1
                omega)]
            · rw [upS_rd, if_neg (fun y => by
                have := z y.1
                omega), upS_rd, if_neg (fun y => by
                have := z y.1
                omega), w6 a q (fun y => by
                have := z y
                omega)]
          · refine fin 3 (by decide) ?_ ?_
            · have hsn : ¬ (0 ≤ s ∧ s < G 10 t) := fun y => z3 y.2
              unfold f_Judge_judgeThrow
              rw [if_pos hw, j1, cE, xbR_s, if_pos rfl, xs, xbR_s, if_pos z1, xw, xbR_s, if_pos z2, cS, xbR_s, x_isWithin, if_neg hsn, xbR_s, if_pos rfl, x_blame, xbR_s]
            · unfold f_M_whyNot
              rw [j2, ms, xbR_s, if_neg z0, xbR_s, if_neg (show ¬ G 17 k = 1 by omega), mw, xbR_s, if_pos z2, mS, xbR_s, if_neg z3]
        · refine fin 2 (by decide) ?_ ?_
          · unfold f_Judge_judgeThrow
            rw [if_pos hw, j1, cE, xbR_s, if_pos rfl, xs, xbR_s, if_pos z1, xw, xbR_s, if_neg z2, c55]
          · unfold f_M_whyNot
            rw [j2, ms, xbR_s, if_neg z0, xbR_s, if_neg (show ¬ G 17 k = 1 by omega), mw, xbR_s, if_neg z2]
      · refine fin 2 (by decide) ?_ ?_
        · unfold f_Judge_judgeThrow
          rw [if_pos hw, j1, cE, xbR_s, if_pos rfl, xs, xbR_s, if_neg z1, c55]
        · unfold f_M_whyNot
          rw [j2, ms, xbR_s, if_neg z0, xbR_s, if_pos (show G 17 k = 1 by omega)]
  · have hw2 : ¬ τ 111 36 = 0 := by rw [← j5]; exact hw
    refine ⟨σ, τ, ?_, by rw [if_neg hw2], ⟨k, r, j1, j2, j3, j4, j5, j6, j7, j8, j9, by omega, j11⟩, fun _ _ _ => rfl, fun _ _ _ => rfl⟩
    unfold f_Judge_judgeThrow
    rw [if_neg hw]
