/-! the tape; how deep a WAY is -/
theorem xand_255 (x : Int) : xand x 255 = x % 256 := by
  have h0 : 0 ≤ x % 256 ∧ x % 256 < 256 := ⟨Int.emod_nonneg _ (by decide), Int.emod_lt_of_pos _ (by decide)⟩
  unfold xand o32
  have key : (Int32.ofInt x &&& Int32.ofInt 255) = Int32.ofInt (x % 256) := by
    apply Int32.toBitVec_inj.mp
    apply BitVec.eq_of_toNat_eq
    rw [Int32.toBitVec_and, Int32.toBitVec_ofInt, Int32.toBitVec_ofInt, Int32.toBitVec_ofInt, BitVec.toNat_and]
    show (BitVec.ofInt 32 x).toNat &&& (2 ^ 8 - 1) = (BitVec.ofInt 32 (x % 256)).toNat
    rw [Nat.and_two_pow_sub_one_eq_mod, BitVec.toNat_ofInt, BitVec.toNat_ofInt]
    omega
  show (Int32.ofInt x &&& Int32.ofInt 255).toInt = x % 256
  rw [key, i32_of ⟨by omega, by omega⟩]
theorem w8_mod (x : Int) : w8 (w8 x) = w8 (x % 256) := by
  unfold w8
  rw [Int.bmod_bmod]
  exact (Int.emod_bmod x 256).symm
/-- four bytes come behind the class's tape -/
theorem x_feed3 (p : Int) : ∀ (j : Nat) (n : Nat) (l : Int) (σ : xSt), l = 8 * (j : Int) - 8 → j < n → 0 ≤ σ 0 1 → σ 0 1 + (j : Int) ≤ 640 → ∃ σ', f_X_feedNumber_3 n p l σ = some σ' ∧ σ' 0 1 = σ 0 1 + (j : Int) ∧ (∀ k : Nat, (k : Int) < σ 0 1 → σ' 1 k = σ 1 k) ∧ ∀ i : Nat, i < j → σ' 1 ((σ 0 1).toNat + i) = w8 (w8 (xushr p (8 * (j : Int) - 8 - 8 * (i : Int)))) := by
  intro j
  induction j with
  | zero =>
    intro n l σ hl hn h0 h1
    obtain ⟨n, rfl⟩ : ∃ n2, n = n2 + 1 := ⟨n - 1, by omega⟩
    refine ⟨σ, ?_, by omega, fun k _ => rfl, fun i hi => absurd hi (Nat.not_lt_zero _)⟩
    unfold f_X_feedNumber_3
    rw [if_pos (by omega)]
  | succ j ih =>
    intro n l σ hl hn h0 h1
    obtain ⟨n, rfl⟩ : ∃ n2, n = n2 + 1 := ⟨n - 1, by omega⟩
    obtain ⟨σ', g1, g2, g3, g4⟩ := ih n (l - 8) (upS (upS σ 1 (σ 0 1).toNat (w8 (w8 (xushr p l)))) 0 1 (σ 0 1 + 1)) (by omega) (by omega) (by simp only [upS_rd]; simp; omega) (by simp only [upS_rd]; simp; omega)
    have r1 : (upS (upS σ 1 (σ 0 1).toNat (w8 (w8 (xushr p l)))) 0 1 (σ 0 1 + 1)) 0 1 = σ 0 1 + 1 := rfl
    rw [r1] at g2 g3 g4
    refine ⟨σ', ?_, by omega, fun k hk => ?_, fun i hi => ?_⟩
    · unfold f_X_feedNumber_3
      simp (disch := omega) only [x_isWithin, if_pos, if_neg, if_true, if_false, xbR, xbW, xlet]
      rw [show (upS σ 1 (σ 0 1).toNat (w8 (w8 (xushr p l)))) 0 1 = σ 0 1 from rfl, w32_o (x := σ 0 1 + 1) (by omega) (by omega), w32_o (x := l + -8) (by omega) (by omega)]
      exact g1
    · rw [g3 k (by omega)]
      show (if 1 = 0 ∧ k = 1 then _ else if 1 = 1 ∧ k = (σ 0 1).toNat then _ else σ 1 k) = σ 1 k
      rw [if_neg (by omega), if_neg (by omega)]
    · cases i with
      | zero =>
        have h2 := g3 (σ 0 1).toNat (by omega)
        rw [Nat.add_zero, h2]
        show (if 1 = 0 ∧ (σ 0 1).toNat = 1 then _ else if 1 = 1 ∧ (σ 0 1).toNat = (σ 0 1).toNat then w8 (w8 (xushr p l)) else _) = _
        rw [if_neg (by omega), if_pos ⟨rfl, rfl⟩, show (8 * ((j + 1 : Nat) : Int) - 8 - 8 * ((0 : Nat) : Int)) = l by omega]
      | succ i =>
        have h2 := g4 i (by omega)
        rw [show (σ 0 1 + 1).toNat + i = (σ 0 1).toNat + (i + 1) by omega] at h2
        rw [h2]
        congr 3
        omega
theorem m_come3 (p : Int) : ∀ (j : Nat) (n : Nat) (l : Int) (σ : xSt), l = 8 * (j : Int) - 8 → j < n → 0 ≤ σ 111 2 → σ 111 2 + (j : Int) ≤ 640 → ∃ σ', f_M_come_3 n p l σ = some σ' ∧ σ' 111 2 = σ 111 2 + (j : Int) ∧ (∀ k : Nat, (k : Int) < σ 111 2 → σ' 112 k = σ 112 k) ∧ ∀ i : Nat, i < j → σ' 112 ((σ 111 2).toNat + i) = xand (xushr p (8 * (j : Int) - 8 - 8 * (i : Int))) 255 := by
  intro j
  induction j with
  | zero =>
    intro n l σ hl hn h0 h1
    obtain ⟨n, rfl⟩ : ∃ n2, n = n2 + 1 := ⟨n - 1, by omega⟩
    refine ⟨σ, ?_, by omega, fun k _ => rfl, fun i hi => absurd hi (Nat.not_lt_zero _)⟩
    unfold f_M_come_3
    rw [if_pos (by omega)]
  | succ j ih =>
    intro n l σ hl hn h0 h1
    obtain ⟨n, rfl⟩ : ∃ n2, n = n2 + 1 := ⟨n - 1, by omega⟩
    obtain ⟨σ', g1, g2, g3, g4⟩ := ih n (l - 8) (upS (upS σ 112 (σ 111 2).toNat (xand (xushr p l) 255)) 111 2 (σ 111 2 + 1)) (by omega) (by omega) (by simp only [upS_rd]; simp; omega) (by simp only [upS_rd]; simp; omega)
    have r1 : (upS (upS σ 112 (σ 111 2).toNat (xand (xushr p l) 255)) 111 2 (σ 111 2 + 1)) 111 2 = σ 111 2 + 1 := rfl
    rw [r1] at g2 g3 g4
    refine ⟨σ', ?_, by omega, fun k hk => ?_, fun i hi => ?_⟩
    · unfold f_M_come_3
      simp (disch := omega) only [if_pos, if_neg, if_true, if_false, xbR, xbW, xlet]
      rw [show (upS σ 112 (σ 111 2).toNat (xand (xushr p l) 255)) 111 2 = σ 111 2 from rfl, w32_o (x := σ 111 2 + 1) (by omega) (by omega), w32_o (x := l + -8) (by omega) (by omega)]
      exact g1
    · rw [g3 k (by omega)]
      show (if 112 = 111 ∧ k = 2 then _ else if 112 = 112 ∧ k = (σ 111 2).toNat then _ else σ 112 k) = σ 112 k
      rw [if_neg (by omega), if_neg (by omega)]
    · cases i with
      | zero =>
        have h2 := g3 (σ 111 2).toNat (by omega)
        rw [Nat.add_zero, h2]
        show (if 112 = 111 ∧ (σ 111 2).toNat = 2 then _ else if 112 = 112 ∧ (σ 111 2).toNat = (σ 111 2).toNat then xand (xushr p l) 255 else _) = _
        rw [if_neg (by omega), if_pos ⟨rfl, rfl⟩, show (8 * ((j + 1 : Nat) : Int) - 8 - 8 * ((0 : Nat) : Int)) = l by omega]
      | succ i =>
        have h2 := g4 i (by omega)
        rw [show (σ 111 2 + 1).toNat + i = (σ 111 2).toNat + (i + 1) by omega] at h2
        rw [h2]
        congr 2
        omega
/-- one number comes behind both tapes -/
theorem feed1 (p : Int) {σx σm : xSt} (h0 : 0 ≤ σx 0 1) (h1 : σx 0 1 + 4 ≤ 640) (he : σx 0 1 = σm 111 2) (hk : ∀ k : Nat, (k : Int) < σx 0 1 → σx 1 k = w8 (σm 112 k) ∧ 0 ≤ σm 112 k ∧ σm 112 k ≤ 255) :
    ∃ σx' σm', f_X_feedNumber p σx = some σx' ∧ f_M_come p σm = some σm' ∧ σx' 0 1 = σx 0 1 + 4 ∧ σx' 0 1 = σm' 111 2 ∧ ∀ k : Nat, (k : Int) < σx' 0 1 → σx' 1 k = w8 (σm' 112 k) ∧ 0 ≤ σm' 112 k ∧ σm' 112 k ≤ 255 := by
  obtain ⟨σx', a1, a2, a3, a4⟩ := x_feed3 p 4 1000000 24 σx rfl (by omega) h0 (by omega)
  obtain ⟨σm', b1, b2, b3, b4⟩ := m_come3 p 4 1000000 24 σm rfl (by omega) (by omega) (by omega)
  refine ⟨σx', σm', a1, b1, by omega, by omega, fun k hk2 => ?_⟩
  by_cases hlt : (k : Int) < σx 0 1
  · rw [a3 k hlt, b3 k (by omega)]
    exact hk k hlt
  · have e1 := a4 (k - (σx 0 1).toNat) (by omega)
    have e2 := b4 (k - (σm 111 2).toNat) (by omega)
    rw [show (σx 0 1).toNat + (k - (σx 0 1).toNat) = k by omega] at e1
    rw [show (σm 111 2).toNat + (k - (σm 111 2).toNat) = k by omega, show k - (σm 111 2).toNat = k - (σx 0 1).toNat by omega] at e2
    rw [e1, e2, xand_255, w8_mod]
    have h2 := Int.emod_nonneg (xushr p (8 * ((4 : Nat) : Int) - 8 - 8 * ((k - (σx 0 1).toNat : Nat) : Int))) (show (256 : Int) ≠ 0 by decide)
    have h3 := Int.emod_lt_of_pos (xushr p (8 * ((4 : Nat) : Int) - 8 - 8 * ((k - (σx 0 1).toNat : Nat) : Int))) (show (0 : Int) < 256 by decide)
    exact ⟨rfl, h2, by omega⟩
theorem Inv0.mk2 {L : xZ} {σ σ' : xSt} (hp : Inv0 σ) (h : Fr L σ σ') (hd : disL (S_tab ++ (S_way ++ (S_sen ++ (S_img ++ (S_told ++ (S_run ++ S_best)))))) L = true) (ht : C_tape σ') : Inv0 σ' := by
  have ha := h.ag hd
  obtain ⟨p1, p2, p3, p4, p5, p6, p7, p8⟩ := hp
  exact ⟨ht, p2.ag ha.l, p3.ag ha.r.l, p4.ag ha.r.r.l, p5.ag ha.r.r.r.l, p6.ag ha.r.r.r.r.l, p7.ag ha.r.r.r.r.r.l, p8.ag ha.r.r.r.r.r.r⟩
theorem x_feed1 (p : Int) {σ : xSt} (h0 : 0 ≤ σ 0 1) (h1 : σ 0 1 + 4 ≤ 640) : ∃ σ', f_X_feedNumber p σ = some σ' ∧ σ' 0 1 = σ 0 1 + 4 := by
  obtain ⟨σx', a1, a2, a3, a4⟩ := x_feed3 p 4 1000000 24 σ rfl (by omega) h0 (by omega)
  exact ⟨σx', a1, a2⟩
theorem sim_feed {n : Nat} : ∀ p1 p2 p3 p4 p5 : Int, in32 p1 → in32 p2 → in32 p3 → in32 p4 → in32 p5 → SimW (InvN (n + 1)) (InvN n) (f_X_feed p1 p2 p3 p4 p5) (f_M_feed p1 p2 p3 p4 p5) := by
  intro p1 p2 p3 p4 p5 _ _ _ _ _
  refine simW0 (fun σ h => ?_)
  obtain ⟨h0, h1, h2, h3⟩ := h.1
  by_cases hb : 620 < σ 0 1
  · refine ⟨-1, σ, upS σ 111 0 0, ?_, ?_, inv_thr h, rfl⟩
    · unfold f_X_feed
      rw [if_pos hb]
    · unfold f_M_feed
      have hz : 640 < w32 (upS σ 111 0 0 111 2 + 20) := by
        show 640 < w32 (σ 111 2 + 20)
        rw [w32_o (by omega) (by omega)]
        omega
      simp only [xlet]
      rw [if_pos hz]
  · obtain ⟨x1, a1, c1⟩ := x_feed1 p1 (σ := σ) (by omega) (by omega)
    obtain ⟨x2, a2, c2⟩ := x_feed1 p2 (σ := x1) (by omega) (by omega)
    obtain ⟨x3, a3, c3⟩ := x_feed1 p3 (σ := x2) (by omega) (by omega)
    obtain ⟨x4, a4, c4⟩ := x_feed1 p4 (σ := x3) (by omega) (by omega)
    obtain ⟨x5, a5, c5⟩ := x_feed1 p5 (σ := x4) (by omega) (by omega)
    have hX : f_X_feed p1 p2 p3 p4 p5 σ = some (x5 0 1, x5) := by
      unfold f_X_feed
      rw [if_neg hb]
      simp only [a1, a2, a3, a4, a5, xbR]
    have hFx := fr_X_feed hX
    have e0 : ∀ k, x5 111 k = σ 111 k := fun k => hFx 111 k rfl
    have e1 : ∀ k, x5 112 k = σ 112 k := fun k => hFx 112 k rfl
    obtain ⟨y1, m1, b1, d1, f1, g1, i1⟩ := feed1 p1 (σx := σ) (σm := upS x5 111 0 0) (by omega) (by omega) (h2.trans (e0 2).symm) (fun k hk => by
      show σ 1 k = w8 (x5 112 k) ∧ 0 ≤ x5 112 k ∧ x5 112 k ≤ 255
      rw [e1]
      exact h3 k (by omega))
    obtain rfl : y1 = x1 := Option.some.inj (b1.symm.trans a1)
    obtain ⟨y2, m2, b2, d2, f2, g2, i2⟩ := feed1 p2 (σx := y1) (σm := m1) (by omega) (by omega) g1 i1
    obtain rfl : y2 = x2 := Option.some.inj (b2.symm.trans a2)
    obtain ⟨y3, m3, b3, d3, f3, g3, i3⟩ := feed1 p3 (σx := y2) (σm := m2) (by omega) (by omega) g2 i2
    obtain rfl : y3 = x3 := Option.some.inj (b3.symm.trans a3)
    obtain ⟨y4, m4, b4, d4, f4, g4, i4⟩ := feed1 p4 (σx := y3) (σm := m3) (by omega) (by omega) g3 i3
    obtain rfl : y4 = x4 := Option.some.inj (b4.symm.trans a4)
    obtain ⟨y5, m5, b5, d5, f5, g5, i5⟩ := feed1 p5 (σx := y4) (σm := m4) (by omega) (by omega) g4 i4
    obtain rfl : y5 = x5 := Option.some.inj (b5.symm.trans a5)
    have hM : f_M_feed p1 p2 p3 p4 p5 y5 = some (m5 111 2, m5) := by
      unfold f_M_feed
      have hz : ¬ 640 < w32 (upS y5 111 0 0 111 2 + 20) := by
        show ¬ 640 < w32 (y5 111 2 + 20)
        rw [e0, w32_o (by omega) (by omega)]
        omega
      simp only [xlet]
      rw [if_neg hz]
      simp only [d1, d2, d3, d4, d5, xbR]
    have hFm := fr_M_feed hM
    have hF : Fr (s_X_feed ++ s_M_feed) σ m5 := Fr.call (Fr.mono hFx rfl) hFm rfl
    refine ⟨y5 0 1, y5, m5, hX, by rw [hM, g5], h.mk2 hF rfl ?_, hF 0 7 rfl⟩
    have e2 : m5 0 1 = y5 0 1 := hFm 0 1 rfl
    have e3 : ∀ k, m5 1 k = y5 1 k := fun k => hFm 1 k rfl
    refine ⟨by omega, by omega, by omega, fun k hk => ?_⟩
    rw [e3]
    exact i5 k (by omega)
theorem sim_end {n : Nat} : ∀ p1 : Int, in32 p1 → SimW (InvN (n + 1)) (InvN n) (f_X_end p1) (f_M_end p1) := by
  intro p1 _
  refine simW0 (fun σ h => ?_)
  obtain ⟨h0, h1, h2, h3⟩ := h.1
  unfold f_X_end f_M_end
  by_cases hp : 0 ≤ p1 ∧ p1 ≤ σ 0 1
  · refine ⟨1, upS σ 0 1 p1, upS (upS (upS σ 0 1 p1) 111 0 0) 111 2 p1, ?_, ?_, ?_, rfl⟩
    · simp (disch := omega) only [if_pos, if_neg, if_true, if_false, xbR, xbW, xlet, upS_rd]
    · simp (disch := omega) only [if_pos, if_neg, if_true, if_false, xbR, xbW, xlet, upS_rd]
    · refine h.mk2 (L := [(0, [1]), (111, [0, 2])]) (Fr.up (Fr.up (Fr.up Fr.rf rfl rfl) rfl rfl) rfl rfl) rfl ⟨hp.1, ?_, rfl, fun k hk => ?_⟩
      · show p1 ≤ 640
        omega
      · have hk : (k : Int) < p1 := hk
        exact h3 k (by omega)
  · refine ⟨0, σ, upS σ 111 0 0, ?_, ?_, inv_thr h, rfl⟩
    · (repeat' split) <;> first | rfl | (exfalso; omega)
    · simp only [xlet]
      have e : upS σ 111 0 0 111 2 = σ 111 2 := rfl
      rw [e]
      (repeat' split) <;> first | rfl | (exfalso; omega)
