/-! chance, chanceAt, mean -/
def gdB (p1 p2 : Int) : Prop := 0 ≤ p1 ∧ p1 ≤ p2 ∧ 1 ≤ p2 ∧ p2 ≤ 9
theorem m_isBend {τ : xSt} {p1 p2 : Int} : (gdB p1 p2 → f_M_isBend p1 p2 τ = some 1) ∧ (¬ gdB p1 p2 → f_M_isBend p1 p2 τ = some 0) := by
  unfold gdB f_M_isBend
  rw [m_isIn, m_isIn]
  constructor
  · rintro ⟨h1, h2, h3, h4⟩
    rw [if_pos ⟨h3, h4⟩, xbR_s, if_neg (by decide), if_pos ⟨h1, h2⟩, xbR_s, if_neg (by decide)]
  · intro hn
    by_cases h1 : 1 ≤ p2 ∧ p2 ≤ 9
    · rw [if_pos h1, xbR_s, if_neg (by decide), if_neg (fun z => hn ⟨z.1, z.2, h1.1, h1.2⟩), xbR_s, if_pos rfl]
    · rw [if_neg h1, xbR_s, if_pos rfl]
theorem m_open {σ L : xSt} (hL : Inv0 L) (h22 : L 111 22 ≠ 0) (e : ∀ a k, a ≤ 86 → L a k = σ a k) (h0 : 0 < σ 16 0) : ∃ v, f_M_isOpenIn L = some v ∧ (v = 1 ∧ Has σ 0 (σ 16 0).toNat (σ 7 3) ∨ v = 0 ∧ ¬ Has σ 0 (σ 16 0).toNat (σ 7 3)) := by
  have e16 := e 16 0 (by decide)
  have h80 := hL.nodes
  have hop : L 113 2 = σ 7 3 := by rw [opG hL h22, e 7 3 (by decide)]
  unfold f_M_isOpenIn
  rw [hop]
  by_cases hz : σ 7 3 = -1
  · refine ⟨0, by rw [if_pos hz], Or.inr ⟨rfl, ?_⟩⟩
    rintro ⟨i, -, i2, i3, i4⟩
    have nd := (hL.nd (p := (i : Int)) (by omega) (by omega)).2.2.2.2
    rw [Int.toNat_natCast, e 17 i (by decide), e 18 i (by decide)] at nd
    rcases nd with ⟨z, -⟩ | ⟨z, -⟩ | ⟨z, z1, z2⟩
    · omega
    · omega
    · omega
  · obtain ⟨u, u1, u2⟩ := m_wayHas (τ := L) hL (fun _ => rfl) (by rw [e16]; exact h0) (σ 7 3)
    rw [e16, Has.cg (fun k => e 17 k (by decide)) (fun k => e 18 k (by decide))] at u2
    refine ⟨u, ?_, u2⟩
    rw [if_neg hz, u1, xbR_s]
    rcases u2 with ⟨rfl, -⟩ | ⟨rfl, -⟩
    · rw [if_neg (by decide)]
    · rw [if_pos rfl]
theorem gI6 {G : xSt} {X : Nat → Nat} : gI G X 6 = gA G X := by
  funext j
  unfold gI
  rw [if_neg (by decide)]
theorem gI5 {G : xSt} {X : Nat → Nat} {i : Nat} (h : i < 6) : gI G X i = gE G X i := by
  funext j
  unfold gI
  rw [if_pos h]
theorem sb_ok {σ : xSt} (h : Inv0 σ) (p1 p2 p3 : Int) :
    (f_X_spreadBy p1 p2 p3 σ = some (0, σ) ∧ ¬ (gdB p1 p2 ∧ (0 ≤ p3 ∧ p3 < 2) ∧ 0 < σ 16 0)) ∨
    ((gdB p1 p2 ∧ (0 ≤ p3 ∧ p3 < 2) ∧ 0 < σ 16 0) ∧ ∃ (σ1 : xSt) (hd wh al nA nT : Nat) (nE : Nat → Nat), p1 = (hd : Int) ∧ p2 = (wh : Int) ∧ f_X_spreadBy p1 p2 p3 σ = some (if nA < al then 1 else 0, σ1) ∧ σ1 87 7 = (al : Int) ∧ σ1 87 8 = (nA : Int) ∧ σ1 87 9 = (nT : Int) ∧ (∀ i : Nat, i < 6 → σ1 91 i = (nE i : Int)) ∧ al ≤ 150094635296999121 ∧ nA ≤ al ∧ nT ≤ 6 * al ∧ (∀ i : Nat, i < 6 → nE i ≤ al) ∧ WLk σ hd wh al nA nT nE) := by
  unfold f_X_spreadBy
  by_cases g1 : gdB p1 p2
  · have g1' := g1
    obtain ⟨a1, a2, a3, a4⟩ := g1'
    rw [if_neg (by omega), if_neg (by omega), if_neg (by omega), if_neg (by omega), x_isWithin]
    by_cases g2 : 0 ≤ p3 ∧ p3 < 2
    · rw [if_pos g2, xbR_s, if_neg (by decide)]
      unfold f_Way_isTold
      by_cases g3 : 0 < σ 16 0
      · rw [if_pos g3, xbR_s, if_neg (by decide)]
        refine Or.inr ⟨⟨g1, g2, g3⟩, ?_⟩
        obtain ⟨hd, hhd⟩ : ∃ n : Nat, p1 = (n : Int) := ⟨p1.toNat, by omega⟩
        obtain ⟨wh, hwh⟩ : ∃ n : Nat, p2 = (n : Int) := ⟨p2.toNat, by omega⟩
        have ew : w32 (p2 - p1) = ((wh - hd : Nat) : Int) := (w32_o (by omega) (by omega)).trans (by omega)
        obtain ⟨n, hn⟩ : ∃ n : Nat, σ 16 0 = (n : Int) := ⟨(σ 16 0).toNat, by omega⟩
        have ht3 := h.things
        obtain ⟨Tn, hT⟩ : ∃ n : Nat, σ 7 1 = (n : Int) := ⟨(σ 7 1).toNat, by omega⟩
        have hb : Bnd hd (wh - hd) wh := ⟨by omega, by omega, by omega, by omega⟩
        obtain ⟨σ1, X, H, T, s1, s2, -⟩ := x_spread h hb hT hn
        obtain ⟨-, t2, t3, t4, t5, t6, t7⟩ := s2
        have al := (AL_3 (t := Tn) h hb (by omega)).2
        have n0 : 0 < n := by omega
        have x0 : X 0 = AL σ wh Tn := ((t4 0 n0).1 rfl).1
        have hHS : HSum σ hd (wh - hd) wh := hsum_ok h (Or.inl (by have := hb.1; omega))
        have hsub := (h.tree g3).1
        rw [show (σ 16 0).toNat = n by omega] at hsub
        obtain ⟨b1, b2⟩ := bnd_tree h hb hn hHS t4 6 0 n _ hsub (Nat.le_refl n)
        have z1 : nsum (gL σ X) 0 = 0 := rfl
        have z2 : nsum (gT σ X) 0 = 0 := rfl
        rw [z1, Nat.zero_add, x0] at b1
        rw [z2, Nat.zero_add, x0] at b2
        have bI : ∀ i, nsum (gI σ X i) n ≤ AL σ wh Tn := fun i => Nat.le_trans (nsum_mono n (fun j _ => gI_le i j)) b1
        have bA := bI 6
        have wl := w_lock h hb hT hn n0 (fun j hj => (t3 j hj).1) t4 bA (fun i _ => bI i) b2
        have f8 : σ1 87 8 = ((nsum (gI σ X 6) n : Nat) : Int) := by
          rw [t5, ← gI6]
          exact w64_o (by omega) (by omega)
        have f9 : σ1 87 9 = ((nsum (gT σ X) n : Nat) : Int) := by
          rw [t6]
          exact w64_o (by omega) (by omega)
        have fE : ∀ i : Nat, i < 6 → σ1 91 i = ((nsum (gI σ X i) n : Nat) : Int) := fun i hi => by
          have q := bI i
          rw [t7 i hi, ← gI5 hi]
          exact w64_o (by omega) (by omega)
        refine ⟨σ1, hd, wh, AL σ wh Tn, nsum (gI σ X 6) n, nsum (gT σ X) n, fun i => nsum (gI σ X i) n, hhd, hwh, ?_, t2, f8, f9, fE, al, bA, b2, fun i _ => bI i, wl⟩
        rw [ew, hhd, hwh, s1, xbR_s, t2, f8]
        by_cases hz : nsum (gI σ X 6) n < AL σ wh Tn
        · rw [if_pos (xlc_gt.mpr (by omega)), if_pos hz]
        · rw [if_neg (fun z => hz (by have := xlc_gt.mp z; omega)), if_neg hz]
      · rw [if_neg g3, xbR_s, if_pos rfl]
        exact Or.inl ⟨rfl, fun z => g3 z.2.2⟩
    · rw [if_neg g2, xbR_s, if_pos rfl]
      exact Or.inl ⟨rfl, fun z => g2 z.2.1⟩
  · refine Or.inl ⟨?_, fun z => g1 z.1⟩
    unfold gdB at g1
    by_cases h1 : p2 < 1
    · rw [if_pos h1]
    · by_cases h2 : 9 < p2
      · rw [if_neg h1, if_pos h2]
      · by_cases h3 : p1 < 0
        · rw [if_neg h1, if_neg h2, if_pos h3]
        · rw [if_neg h1, if_neg h2, if_neg h3, if_pos (by omega)]
theorem fin_x {al nA u : Nat} (l3 : nA < al) (hal : al ≤ 150094635296999121) (hu : u ≤ 6 * al) {what : Int} {σ : xSt} : ∃ σ', f_X_told (u : Int) (w64 ((al : Int) - (nA : Int))) what σ = some (rdI (u : Int) (al - nA) what, σ') := by
  have e1 : w64 ((al : Int) - (nA : Int)) = ((al - nA : Nat) : Int) := (w64_o (by omega) (by omega)).trans (by omega)
  have f1 := x_told (σ := σ) (u := (u : Int)) (b := al - nA) (what := what) (by omega) (by omega) (by omega) (by omega)
  exact ⟨_, by rw [e1]; exact f1⟩
theorem fin_m {C B A S al nA u : Nat} (hz : nA < al) (hC : 1 ≤ C) (h1 : al = C * B) (h2 : nA = C * A) (h3 : u = C * S) (hal : al ≤ 150094635296999121) (hu : u ≤ 6 * al) {what : Int} {τ : xSt} :
    A < B ∧ f_M_part (S : Int) (w64 ((B : Int) - (A : Int))) what τ = some (rdI (u : Int) (al - nA) what) := by
  have hAB : A < B := by
    rw [h1, h2] at hz
    exact Nat.lt_of_mul_lt_mul_left hz
  have l1 : S ≤ u := by rw [h3]; exact Nat.le_mul_of_pos_left _ hC
  have l2 : B ≤ al := by rw [h1]; exact Nat.le_mul_of_pos_left _ hC
  have e0 : al - nA = (B - A) * C := by rw [h1, h2, ← Nat.mul_sub, Nat.mul_comm]
  have e2 : w64 ((B : Int) - (A : Int)) = ((B - A : Nat) : Int) := (w64_o (by omega) (by omega)).trans (by omega)
  have e3 : rdI (u : Int) (al - nA) what = rdI (S : Int) (B - A) what := by
    rw [e0, h3, Nat.mul_comm C S, Int.natCast_mul]
    exact rdI_mul hC
  have f2 := m_part (σ := τ) (u := (S : Int)) (b := B - A) (what := what) (by omega) (by omega) (by omega) (by omega)
  rw [e3]
  exact ⟨hAB, by rw [e2]; exact f2⟩
theorem x_endW {σ : xSt} {p : Int} (h : 0 ≤ p ∧ p < 6) : f_Odds_endWeight p σ = some (σ 91 p.toNat) := by
  unfold f_Odds_endWeight
  rw [x_isWithin, if_pos h, xbR_s, if_neg (by decide), if_pos h]
theorem sim_chanceAt {n : Nat} : ∀ p1 p2 p3 p4 : Int, in32 p1 → in32 p2 → in32 p3 → in32 p4 → SimT (InvN (n + 1)) (InvN n) (f_X_chanceAt p1 p2 p3 p4) (f_M_chanceAt p1 p2 p3 p4) := by
  intro p1 p2 p3 p4 _ _ _ _
  refine simT_scr (fun σ h => ?_)
  have he := h.ends
  have nul : ∀ σ1, f_X_chanceAt p1 p2 p3 p4 σ = some (none, σ1) → (∀ W L : xSt, f_M_lay W = some L → Inv0 L → L 111 22 ≠ 0 → (∀ a k, a ≤ 86 → L a k = σ a k) → ∃ M, f_M_chanceAt p1 p2 p3 p4 W = f_M_chanceAt_46 M ∧ Fr s_sc L M) → ∃ r σ1, f_X_chanceAt p1 p2 p3 p4 σ = some (r, σ1) ∧ Fr s_sc σ σ1 ∧ ∀ L, f_M_lay (wSt (r, σ1)) = some L → Inv0 L → L 111 22 ≠ 0 → (∀ a k, a ≤ 86 → L a k = σ a k) → ∃ bb M, f_M_chanceAt p1 p2 p3 p4 (wSt (r, σ1)) = some (bb, M) ∧ Fr s_sc L M ∧ (r = none ∧ M 111 0 = 1 ∨ M 111 0 = 0 ∧ r = some bb) := fun σ1 hX hM => ⟨none, σ1, hX, (fr_X_chanceAt hX).mono rfl, fun L l1 l2 l3 l4 => by
    obtain ⟨M, m1, m2⟩ := hM _ L l1 l2 l3 l4
    exact ⟨0, upS M 111 0 1, m1.trans rfl, Fr.up m2 rfl rfl, Or.inl ⟨rfl, by rw [upS_eq]⟩⟩⟩
  by_cases hp : 0 ≤ p1 ∧ p1 < σ 7 2
  · have hx : f_Table_hasEnd p1 σ = some 1 := by rw [x_hasEnd (by omega), if_pos hp]
    have hm : ∀ L : xSt, Inv0 L → (∀ a k, a ≤ 86 → L a k = σ a k) → f_M_isEnd p1 L = some 1 := fun L l1 l2 => by
      rw [m_isEnd, ← l1.ends.1, l2 7 2 (by decide), if_pos hp]
    rcases sb_ok h p2 p3 p4 with ⟨s1, s2⟩ | ⟨⟨g1, g2, g3⟩, σ1, hd, wh, al, nA, nT, nE, c1, c2, c3, c4, c5, c6, c7, c8, c9, c10, c11, c12⟩
    · refine nul σ ?_ (fun W L hl l1 l2 l3 => ⟨L, ?_, Fr.rf⟩)
      · unfold f_X_chanceAt
        rw [hx, xbR_s, if_neg (by decide), s1, xbW_s, if_pos rfl]
      · unfold f_M_chanceAt
        rw [hl, xbR_s, hm L l1 l3, xbR_s, if_neg (by decide)]
        by_cases g1 : gdB p2 p3
        · rw [m_isBend.1 g1, xbR_s, if_neg (by decide), m_isIn]
          by_cases g2 : 0 ≤ p4 ∧ p4 < 2
          · rw [if_pos (by omega), xbR_s, if_neg (by decide), m_hasWay, ← l1.nodes.1, l3 16 0 (by decide), if_neg (fun z => s2 ⟨g1, g2, z⟩), xbR_s, if_pos rfl]
          · rw [if_neg (by omega), xbR_s, if_pos rfl]
        · rw [m_isBend.2 g1, xbR_s, if_pos rfl]
    · have hm2 : ∀ W L : xSt, f_M_lay W = some L → Inv0 L → (∀ a k, a ≤ 86 → L a k = σ a k) → f_M_chanceAt p1 p2 p3 p4 W = (xbW (f_M_layWeights p2 p3 L) fun r6 σ7 =>
  if r6 = 0 then (f_M_chanceAt_46 σ7)
  else (xlet (upS σ7 111 0 0) fun σ8 =>
  if 0 ≤ p1 ∧ p1 < 8 then (
  xbR (f_M_part (σ8 121 p1.toNat) (w64 ((σ8 111 29) - (σ8 121 6))) p4 σ8) fun r9 =>
  some (r9, σ8)) else none)) := fun W L hl l1 l3 => by
        unfold f_M_chanceAt
        rw [hl, xbR_s, hm L l1 l3, xbR_s, if_neg (by decide), m_isBend.1 g1, xbR_s, if_neg (by decide), m_isIn, if_pos (by omega), xbR_s, if_neg (by decide), m_hasWay, ← l1.nodes.1, l3 16 0 (by decide), if_pos g3, xbR_s, if_neg (by decide)]
      by_cases hz : nA < al
      · obtain ⟨i, hi⟩ : ∃ i : Nat, p1 = (i : Int) := ⟨p1.toNat, by omega⟩
        have i6 : i < 6 := by omega
        have bi := c11 i i6
        have hu : nE i ≤ 6 * al := by omega
        obtain ⟨σ2, f1⟩ := fin_x (what := p4) (σ := σ1) hz c8 hu
        have hX : f_X_chanceAt p1 p2 p3 p4 σ = some (some (rdI (nE i : Int) (al - nA) p4), σ2) := by
          unfold f_X_chanceAt
          rw [hx, xbR_s, if_neg (by decide), c3, xbW_s, if_pos hz, if_neg (by decide), x_endW (by omega), xbR_s, hi, Int.toNat_natCast, c7 i i6, c4, c5, f1, xbW_s]
        refine ⟨_, σ2, hX, (fr_X_chanceAt hX).mono rfl, fun L hl l1 l2 l3 => ?_⟩
        obtain ⟨M, C, B, A, S, E, d1, d2, d3, d4, d5, d6, d7, d8, d9, d10⟩ := c12 L l1 l2 l3
        obtain ⟨hAB, f2⟩ := fin_m (τ := upS M 111 0 0) (what := p4) hz d6 d7 d8 (d10 i i6) c8 hu
        refine ⟨_, upS M 111 0 0, ?_, Fr.up ((fr_M_layWeights d1).mono rfl) rfl rfl, Or.inr ⟨upS_eq, rfl⟩⟩
        rw [hm2 _ L hl l1 l3, c1, c2, d1, xbW_s, if_pos hAB, if_neg (by decide), xlet_s, if_pos (by omega), hi, Int.toNat_natCast, upS_ne (by decide), upS_nk (by decide), upS_ne (by decide), d5 i i6, d2, d3, f2, xbR_s]
      · refine nul σ1 ?_ (fun W L hl l1 l2 l3 => ?_)
        · unfold f_X_chanceAt
          rw [hx, xbR_s, if_neg (by decide), c3, xbW_s, if_neg hz, if_pos rfl]
        · obtain ⟨M, C, B, A, S, E, d1, d2, d3, d4, d5, d6, d7, d8, d9, d10⟩ := c12 L l1 l2 l3
          have hz2 : ¬ A < B := fun z => hz (by rw [d7, d8]; exact Nat.mul_lt_mul_of_pos_left z d6)
          refine ⟨M, ?_, (fr_M_layWeights d1).mono rfl⟩
          rw [hm2 W L hl l1 l3, c1, c2, d1, xbW_s, if_neg hz2, if_pos rfl]
  · refine nul σ ?_ (fun W L hl l1 l2 l3 => ⟨L, ?_, Fr.rf⟩)
    · unfold f_X_chanceAt
      rw [x_hasEnd (by omega), if_neg hp, xbR_s, if_pos rfl]
    · unfold f_M_chanceAt
      rw [hl, xbR_s, m_isEnd, ← l1.ends.1, l3 7 2 (by decide), if_neg hp, xbR_s, if_pos rfl]
