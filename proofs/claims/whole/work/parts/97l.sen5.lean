/-! SENTENCES read in lock-step: a ONE in all its ways -/
section
variable {G σ0 τ0 : xSt} {d : Nat → Int} {n c : Nat} {en : Int}
theorem one_step (hG : Inv0 G) (hX : ∀ a q, 7 ≤ a → a ≤ 15 → σ0 a q = G a q) (h113 : ∀ q, τ0 113 q = G 113 q) (h117 : ∀ q, τ0 117 q = G 117 q) (hen : en = G 7 2) (D W : Nat) (hDW : D + W = 8) (ih : ∀ D', D = D' + 1 → OneL σ0 τ0 d n c en D' (W + 1)) : OneL σ0 τ0 d n c en D W := by
  intro F F2 hF hF2 i O S σ τ hR
  obtain ⟨F, rfl⟩ : ∃ n2, F = n2 + 1 := ⟨F - 1, by omega⟩
  obtain ⟨F2, rfl⟩ : ∃ n2, F2 = n2 + 1 := ⟨F2 - 1, by omega⟩
  suffices hgoal : (∃ σ' τ', f0_Sentence_readOne ((g_Sentence_readAll F).1) ((g_Sentence_readAll F).2.1) ((g_Sentence_readAll F).2.2) ((W + 1 : Nat) : Int) σ = some (1, σ') ∧ f0_M_readOne ((g_M_readAnd F2).1) ((g_M_readAnd F2).2.1) ((g_M_readAnd F2).2.2.1) ((g_M_readAnd F2).2.2.2.1) ((g_M_readAnd F2).2.2.2.2) τ = some (1, τ') ∧ SnE σ0 τ0 d n c en O S W σ τ σ' τ') ∨
      (∃ σ' τ', f0_Sentence_readOne ((g_Sentence_readAll F).1) ((g_Sentence_readAll F).2.1) ((g_Sentence_readAll F).2.2) ((W + 1 : Nat) : Int) σ = some (0, σ') ∧ f0_M_readOne ((g_M_readAnd F2).1) ((g_M_readAnd F2).2.1) ((g_M_readAnd F2).2.2.1) ((g_M_readAnd F2).2.2.2.1) ((g_M_readAnd F2).2.2.2.2) τ = some (0, τ') ∧ SnB σ0 τ0 σ' τ') from hgoal
  obtain ⟨hL, h9, h10, kX, kM, o1, o2, s1, s2, w1, hO20, hS⟩ := id hR
  have hh := hL.hand
  have hW8 : W ≤ 8 := by omega
  have O100 : O < 100000 := by omega
  have W100 : W < 100000 := by omega
  have W101 : W + 1 < 100000 := by omega
  obtain ⟨u, u0, u1, u2⟩ := hh.sign 40
  -- too many
  have many : τ 111 7 ≠ 1 → (O = 20 ∨ W = 8) → ∀ nt op sz pl l1 l2 : Int, ∃ σ' τ', f_Sentence_readOne_101 ((g_Sentence_readAll F).1) ((g_Sentence_readAll F).2.1) ((g_Sentence_readAll F).2.2) ((W + 1 : Nat) : Int) nt op sz pl σ = some (0, σ') ∧ f_M_readOne_46 ((g_M_readAnd F2).1) ((g_M_readAnd F2).2.1) ((g_M_readAnd F2).2.2.1) ((g_M_readAnd F2).2.2.2.1) ((g_M_readAnd F2).2.2.2.2) l1 l2 τ = some (0, τ') ∧ SnB σ0 τ0 σ' τ' := fun h7 hm nt op sz pl l1 l2 => by
    obtain ⟨σ', τ', a1, a2, a3, a4, a5, a6⟩ := hh.fail h9 (p := 4) (fun z => absurd z h7)
    have b1 : ∀ qa qb qc, f_Sentence_readOne_116 qa qb qc σ = some (0, σ') := fun qa qb qc => by
      unfold f_Sentence_readOne_116
      rw [a1, xbW_s]
      rfl
    have b2 : ∀ qa qb qc qd qe, f_M_readOne_64 qa qb qc qd qe τ = some (0, τ') := fun qa qb qc qd qe => by
      unfold f_M_readOne_64
      rw [a2, xbW_s]
      rfl
    refine ⟨σ', τ', ?_, ?_, a3, kX.fail a5, kM.bad a6⟩
    · unfold f_Sentence_readOne_101
      rw [o1]
      by_cases z : (O : Int) < 20
      · rw [if_pos z, if_pos (by omega), b1]
      · rw [if_neg z, b1]
    · unfold f_M_readOne_46
      rw [o2, w1]
      by_cases z : (O : Int) = 20
      · rw [if_pos z, b2]
      · rw [if_neg z, if_pos (by omega), b2]
  -- out with a fault
  have failOut : ∀ (l : Int) (σ' τ' : xSt), SnB σ0 τ0 σ' τ' → ∃ τ'', f_M_readOne_172 ((g_M_readAnd F2).1) ((g_M_readAnd F2).2.1) ((g_M_readAnd F2).2.2.1) ((g_M_readAnd F2).2.2.2.1) ((g_M_readAnd F2).2.2.2.2) 0 τ' = some (0, τ'') ∧ SnB σ0 τ0 σ' τ'' := fun l σ' τ' h => ⟨_, m_172, out_fail h⟩
  have goodOut : ∀ (τ' : xSt), τ' 111 73 = ((W + 1 : Nat) : Int) → f_M_readOne_172 ((g_M_readAnd F2).1) ((g_M_readAnd F2).2.1) ((g_M_readAnd F2).2.2.1) ((g_M_readAnd F2).2.2.2.1) ((g_M_readAnd F2).2.2.2.2) 1 τ' = some (1, upS τ' 111 73 (W : Int)) := fun τ' h => by
    rw [m_172, h, w_out hW8]
    rfl
  -- in
  obtain ⟨σa, hσa⟩ : ∃ σa, σa = upS σ 42 0 ((O + 1 : Nat) : Int) := ⟨_, rfl⟩
  obtain ⟨τa, hτa⟩ : ∃ τa, τa = upS (upS τ 111 72 ((O + 1 : Nat) : Int)) 111 73 ((W + 1 : Nat) : Int) := ⟨_, rfl⟩
  have sa : ∀ q, σa 2 q = σ 2 q := fun q => by rw [hσa, upS_ne (by decide)]
  have inn : O < 20 → W < 8 → σ 2 6 ≠ 0 → σ 2 6 ≠ 1 → ∃ σb τb, f_Tokens_step σa = some σb ∧ SnR σ0 τ0 d n c (i + 1) (O + 1) S (W + 1) σb τb ∧ Kps S σ τ σb τb ∧
      (∀ nt op sz pl : Int, f_Sentence_readOne_101 ((g_Sentence_readAll F).1) ((g_Sentence_readAll F).2.1) ((g_Sentence_readAll F).2.2) ((W + 1 : Nat) : Int) nt op sz pl σ = (if sz = 0 then (if pl = 0 then (if nt = 0 then (if op = 0 then (xbW (f_Sentence_readLike σb) fun r12 σ13 => some (xnb r12, σ13)) else (xbW ((g_Sentence_readAll F).2.1 ((W + 1 + 1 : Nat) : Int) σb) fun r14 σ15 => if r14 = 0 then (some (0, σ15)) else (xbW (f_Tokens_pass 41 σ15) fun r16 σ17 => if r16 = 0 then (some (0, σ17)) else (some (1, σ17))))) else (xbW ((g_Sentence_readAll F).2.2 ((W + 1 + 1 : Nat) : Int) σb) fun r18 σ19 => if r18 = 0 then (some (0, σ19)) else (xbW (f_Sentence_add 0 0 0 σ19) fun r20 σ21 => if r20 = 0 then (some (0, σ21)) else (some (1, σ21))))) else (xbR (f_Tokens_is 147 σa) fun r22 => if r22 = 0 then (f_Sentence_readOne_162 ((g_Sentence_readAll F).1) ((g_Sentence_readAll F).2.1) ((g_Sentence_readAll F).2.2) 5 σa) else (f_Sentence_readOne_162 ((g_Sentence_readAll F).1) ((g_Sentence_readAll F).2.1) ((g_Sentence_readAll F).2.2) 4 σa))) else (xbW (f_Sentence_readSized σa) fun r23 σ24 => some (xnb r23, σ24)))) ∧
      (∀ l1 l2 : Int, f_M_readOne_46 ((g_M_readAnd F2).1) ((g_M_readAnd F2).2.1) ((g_M_readAnd F2).2.2.1) ((g_M_readAnd F2).2.2.2.1) ((g_M_readAnd F2).2.2.2.2) l1 l2 τ = (if l1 = 0 then (if l2 = 8 then (xbW ((g_M_readAnd F2).2.2.1 τb) fun r9 σ10 => f_M_readOne_172 ((g_M_readAnd F2).1) ((g_M_readAnd F2).2.1) ((g_M_readAnd F2).2.2.1) ((g_M_readAnd F2).2.2.2.1) ((g_M_readAnd F2).2.2.2.2) r9 σ10) else (if l2 = 10 then (f_M_readOne_134 ((g_M_readAnd F2).1) ((g_M_readAnd F2).2.1) ((g_M_readAnd F2).2.2.1) ((g_M_readAnd F2).2.2.2.1) ((g_M_readAnd F2).2.2.2.2) l2 1 τb) else (if l2 = 11 then (f_M_readOne_134 ((g_M_readAnd F2).1) ((g_M_readAnd F2).2.1) ((g_M_readAnd F2).2.2.1) ((g_M_readAnd F2).2.2.2.1) ((g_M_readAnd F2).2.2.2.2) l2 1 τb) else (if l2 = 9 then (xbW (f_M_readNamed l2 τb) fun r11 σ12 => f_M_readOne_171 ((g_M_readAnd F2).1) ((g_M_readAnd F2).2.1) ((g_M_readAnd F2).2.2.1) ((g_M_readAnd F2).2.2.2.1) ((g_M_readAnd F2).2.2.2.2) r11 σ12) else (xbW (f_M_readCompare l2 τb) fun r13 σ14 => f_M_readOne_171 ((g_M_readAnd F2).1) ((g_M_readAnd F2).2.1) ((g_M_readAnd F2).2.2.1) ((g_M_readAnd F2).2.2.2.1) ((g_M_readAnd F2).2.2.2.2) r13 σ14))))) else (xbW ((g_M_readAnd F2).2.1 τb) fun r15 σ16 => f_M_readOne_172 ((g_M_readAnd F2).1) ((g_M_readAnd F2).2.1) ((g_M_readAnd F2).2.2.1) ((g_M_readAnd F2).2.2.2.1) ((g_M_readAnd F2).2.2.2.2) r15 σ16))) := fun hO hW z0 z1 => by
    have hRa := hR.ent hO
    rw [← hσa, ← hτa] at hRa
    obtain ⟨σb, τb, b1, b2, b3, b4, b5⟩ := hRa.go (by rw [sa]; exact z0) (by rw [sa]; exact z1)
    have kk : Kps S σ τ σa τa := ⟨fun k _ => by
      rw [hσa, upS_ne (by decide), upS_ne (by decide), upS_ne (by decide)]
      exact ⟨rfl, rfl, rfl⟩, fun q _ => by rw [hτa, upS_ne (by decide), upS_ne (by decide)]⟩
    refine ⟨σb, τb, b1, b3, kk.tr (Kps.step b4 b5) (Nat.le_refl S), fun nt op sz pl => ?_, fun l1 l2 => ?_⟩
    · unfold f_Sentence_readOne_101
      rw [o1, if_pos (by omega), if_neg (by omega), w32_n1 O100, xlet_s, ← hσa, b1, xbR_s, w32_n1 W101]
    · unfold f_M_readOne_46
      rw [o2, w1, if_neg (by omega), if_neg (by omega), w32_n1 O100, xlet_s, upS_nk (by decide), w1, w32_n1 W100, xlet_s, ← hτa, b2, xbR_s]
  have e10 : ((1 : Int) = 0) = False := eq_false (by decide)
  have e00 : ((0 : Int) = 0) = True := eq_true rfl
  rcases find_w hh with ⟨w, q1, q2, q3, q4, q5, q6⟩ | ⟨q3, q4⟩
  · have hu : u = 0 := by
      rcases u0 with z | z
      · exact z
      · have := (sgn1 (p := 40) (σ := σ) (by rw [u1, z])).1
        omega
    rw [hu] at u1 u2
    have m0 : f0_M_readOne ((g_M_readAnd F2).1) ((g_M_readAnd F2).2.1) ((g_M_readAnd F2).2.2.1) ((g_M_readAnd F2).2.2.2.1) ((g_M_readAnd F2).2.2.2.2) τ = f_M_readOne_46 ((g_M_readAnd F2).1) ((g_M_readAnd F2).2.1) ((g_M_readAnd F2).2.2.1) ((g_M_readAnd F2).2.2.2.1) ((g_M_readAnd F2).2.2.2.2) 0 (w : Int) τ := by
      unfold f0_M_readOne
      have h10 := m_one10 (qa := (g_M_readAnd F2).1) (qb := (g_M_readAnd F2).2.1) (qc := (g_M_readAnd F2).2.2.1) (qd := (g_M_readAnd F2).2.2.2.1) (qe := (g_M_readAnd F2).2.2.2.2) (l1 := 0) (w := w) (τ := τ) (by omega) (fun k k1 k2 => by rw [q3 k k1 (by omega), if_neg (by omega)]) (fun z => by rw [q3 w q1 q2, if_pos rfl]) (w - 8) 1000000 8 (by omega) (by omega) (by omega)
      rw [u2, xbR_s]
      refine Eq.trans h10 ?_
      unfold f_M_readOne_30
      rw [if_pos rfl, if_neg (by omega)]
    have i144 := q4 σ rfl rfl 144 8 (by decide) (by decide) (by decide)
    have i149 := q4 σ rfl rfl 149 9 (by decide) (by decide) (by decide)
    have i147 := q4 σ rfl rfl 147 10 (by decide) (by decide) (by decide)
    have i148 := q4 σ rfl rfl 148 11 (by decide) (by decide) (by decide)
    have i145 := q4 σ rfl rfl 145 12 (by decide) (by decide) (by decide)
    have i146 := q4 σ rfl rfl 146 13 (by decide) (by decide) (by decide)
    have a147 := q4 σa (sa 6) (sa 7) 147 10 (by decide) (by decide) (by decide)
    have a145 := q4 σa (sa 6) (sa 7) 145 12 (by decide) (by decide) (by decide)
    have x0 : f0_Sentence_readOne ((g_Sentence_readAll F).1) ((g_Sentence_readAll F).2.1) ((g_Sentence_readAll F).2.2) ((W + 1 : Nat) : Int) σ = f_Sentence_readOne_101 ((g_Sentence_readAll F).1) ((g_Sentence_readAll F).2.1) ((g_Sentence_readAll F).2.2) ((W + 1 : Nat) : Int) (if 8 = w then 1 else 0) 0 (if 12 ≤ w then 1 else 0) (if w = 10 ∨ w = 11 then 1 else 0) σ := by
      unfold f0_Sentence_readOne f_Sentence_readOne_34 f_Sentence_readOne_39 f_Sentence_readOne_59 f_Sentence_readOne_64
      rw [i144, xbR_s, u1, xbR_s, i145, xbR_s, i146, xbR_s, i147, xbR_s, i148, xbR_s, i149, xbR_s]
      rcases (show w = 8 ∨ w = 9 ∨ w = 10 ∨ w = 11 ∨ w = 12 ∨ w = 13 by omega) with rfl | rfl | rfl | rfl | rfl | rfl <;> rfl
    rw [x0, m0]
    clear x0 m0
    by_cases hm : O = 20 ∨ W = 8
    · obtain ⟨σ', τ', a1, a2, a3⟩ := many (by omega) hm (if 8 = w then 1 else 0) 0 (if 12 ≤ w then 1 else 0) (if w = 10 ∨ w = 11 then 1 else 0) 0 (w : Int)
      exact Or.inr ⟨σ', τ', a1, a2, a3⟩
    · obtain ⟨σb, τb, b1, b2, b3, b4, b5⟩ := inn (by omega) (by omega) (by omega) (by omega)
      rw [b4, b5, if_pos rfl]
      obtain ⟨D', hD'⟩ : ∃ D', D = D' + 1 := ⟨D - 1, by omega⟩
      have hI := ih D' hD'
      have hS1 : S + 1 ≤ 2 * (O + 1) := by omega
      have leafOut : ∀ (σ' τ' : xSt), SnF σ0 τ0 d n c en (O + 1) S (W + 1) σb τb σ' τ' → f_M_readOne_172 ((g_M_readAnd F2).1) ((g_M_readAnd F2).2.1) ((g_M_readAnd F2).2.2.1) ((g_M_readAnd F2).2.2.2.1) ((g_M_readAnd F2).2.2.2.2) 1 τ' = some (1, upS τ' 111 73 (W : Int)) ∧ SnE σ0 τ0 d n c en O S W σ τ σ' (upS τ' 111 73 (W : Int)) := fun σ' τ' h => by
        obtain ⟨i', y1, y2, y3, y4⟩ := h
        obtain ⟨x1, x2⟩ := one_fin (O := O) b3 y1 (by rw [y2]; omega) (Nat.le_refl _) (by omega) y3 y4
        exact ⟨goodOut τ' x1, x2⟩
      have hb9 := b2.2.1
      rcases (show w = 8 ∨ w = 9 ∨ (w = 10 ∨ w = 11) ∨ w = 12 ∨ w = 13 by omega) with hw | hw | hw | hw | hw
      · -- not
        subst hw
        have c8 : ((8 : Nat) : Int) = 8 := rfl
        rw [if_pos (show (if (12 : Nat) ≤ 8 then (1 : Int) else 0) = 0 from rfl), if_pos (show (if (8 : Nat) = 10 ∨ (8 : Nat) = 11 then (1 : Int) else 0) = 0 from rfl), if_neg (show ¬ (if (8 : Nat) = 8 then (1 : Int) else 0) = 0 by decide), c8, if_pos (show (0 : Int) = 0 from rfl), if_pos (show (8 : Int) = 8 from rfl)]
        obtain ⟨F2, rfl⟩ : ∃ n2, F2 = n2 + 1 := ⟨F2 - 1, by omega⟩
        have mn : (g_M_readAnd (F2 + 1)).2.2.1 τb = (xbW ((g_M_readAnd F2).2.2.2.1 τb) fun r1 σ2 => if r1 = 0 then (some (0, σ2)) else (xbW (f_M_saysOne 1 (σ2 111 74) 0 0 σ2) fun r3 σ4 => xlet (upS σ4 111 74 r3) fun σ5 => some (1, σ5))) := rfl
        rcases hI F F2 (by omega) (by omega) (i + 1) (O + 1) S σb τb b2 with ⟨σ1, τ1, a1, a2, i1, O1, S1, c1, c2, c3, c4, c5, c6⟩ | ⟨σ1, τ1, a1, a2, a3⟩
        · have a1 : (g_Sentence_readAll F).2.2 ((W + 1 + 1 : Nat) : Int) σb = some (1, σ1) := a1
          have a2 : (g_M_readAnd F2).2.2.2.1 τb = some (1, τ1) := a2
          obtain ⟨σ2, τ2, w1, w2, w3, w4, ⟨w5, w6, w7⟩, w8, w9, w10, w11, w12, w13⟩ := add_lock c1 (by omega) 0 0 0 1 ((S1 : Int) - 1) 0 0
          have hS1' : S < S1 := c6.1
          have f : ∀ q, (upS τ2 111 74 (S1 : Int)) 138 q = τ2 138 q := fun q => upS_ne (by decide)
          have K2 : Kps S σb τb σ2 (upS τ2 111 74 (S1 : Int)) := by
            have := c5.tr w4 (by omega)
            exact ⟨this.1, fun q hq => (f q).trans (this.2 q hq)⟩
          have A2 : SnA σ2 (upS τ2 111 74 (S1 : Int)) en S (S1 + 1) := (c6.cg w4.1 (fun q hq => (f q).trans (w4.2 q hq))).not w5 (by rw [f]; exact w8) (by rw [f]; exact w9)
          obtain ⟨x1, x2⟩ := one_fin (O := O) b3 (w3.top (S1 : Int)) (by rw [upS_eq]; omega) (by omega) (by omega) K2 A2
          refine Or.inl ⟨σ2, _, ?_, ?_, x2⟩
          · rw [a1, xbW_s, if_neg (by decide), w1, xbW_s, if_neg (by decide)]
          · rw [mn, a2, xbW_s, if_neg (by decide), c2, w2, xbW_s, xlet_s, xbW_s]
            exact goodOut _ x1
        · have a1 : (g_Sentence_readAll F).2.2 ((W + 1 + 1 : Nat) : Int) σb = some (0, σ1) := a1
          have a2 : (g_M_readAnd F2).2.2.2.1 τb = some (0, τ1) := a2
          obtain ⟨τ2, y1, y2⟩ := failOut 0 σ1 τ1 a3
          refine Or.inr ⟨σ1, τ2, ?_, ?_, y2⟩
          · rw [a1, xbW_s, if_pos rfl]
          · rw [mn, a2, xbW_s, if_pos rfl, xbW_s]
            exact y1
      · -- like
        subst hw
        have c9 : ((9 : Nat) : Int) = 9 := rfl
        have n98 : ¬ (9 : Int) = 8 := by decide
        have n910 : ¬ (9 : Int) = 10 := by decide
        have n911 : ¬ (9 : Int) = 11 := by decide
        rw [if_pos (show (if (12 : Nat) ≤ 9 then (1 : Int) else 0) = 0 from rfl), if_pos (show (if (9 : Nat) = 10 ∨ (9 : Nat) = 11 then (1 : Int) else 0) = 0 from rfl), if_pos (show (if (8 : Nat) = 9 then (1 : Int) else 0) = 0 from rfl), if_pos rfl, c9, if_neg n98, if_neg n910, if_neg n911, if_pos rfl]
        rcases named_lock hG hX h113 h117 hen b2 hS1 with ⟨σ1, τ1, a1, a2, a3⟩ | ⟨σ1, τ1, a1, a2, a3⟩
        · obtain ⟨x1, x2⟩ := leafOut σ1 τ1 a3
          refine Or.inl ⟨σ1, _, ?_, ?_, x2⟩
          · rw [a1, xbW_s]; rfl
          · rw [a2, xbW_s]
            exact x1
        · obtain ⟨τ2, y1, y2⟩ := failOut 0 σ1 τ1 a3
          refine Or.inr ⟨σ1, τ2, ?_, ?_, y2⟩
          · rw [a1, xbW_s]; rfl
          · rw [a2, xbW_s]
            exact y1
      · -- comes, shares
        have cl : ∀ p : Int, (∃ σ' τ', f_Sentence_add p 0 0 σb = some (1, σ') ∧ f_M_saysOne (w32 (50 + (w : Int))) 0 0 0 τb = some ((S : Int), τ') ∧ SnF σ0 τ0 d n c en (O + 1) S (W + 1) σb τb σ' (upS τ' 111 74 (S : Int))) → (f_Tokens_is 147 σa = some (if p = 4 then 1 else 0)) → (p = 4 ∨ p = 5) →
            ∃ σ' τ', (xbR (f_Tokens_is 147 σa) fun r22 => if r22 = 0 then (f_Sentence_readOne_162 ((g_Sentence_readAll F).1) ((g_Sentence_readAll F).2.1) ((g_Sentence_readAll F).2.2) 5 σa) else (f_Sentence_readOne_162 ((g_Sentence_readAll F).1) ((g_Sentence_readAll F).2.1) ((g_Sentence_readAll F).2.2) 4 σa)) = some (1, σ') ∧ f_M_readOne_134 ((g_M_readAnd F2).1) ((g_M_readAnd F2).2.1) ((g_M_readAnd F2).2.2.1) ((g_M_readAnd F2).2.2.2.1) ((g_M_readAnd F2).2.2.2.2) (w : Int) 1 τb = some (1, τ') ∧ SnE σ0 τ0 d n c en O S W σ τ σ' τ' := by
          rintro p ⟨σ1, τ1, a1, a2, a3⟩ hp hp2
          obtain ⟨x1, x2⟩ := leafOut σ1 _ a3
          have c162 : ∀ qa qb qc, f_Sentence_readOne_162 qa qb qc p σa = some (1, σ1) := fun qa qb qc => by
            unfold f_Sentence_readOne_162
            rw [b1, xbR_s, a1, xbW_s]
            rfl
          refine ⟨σ1, _, ?_, ?_, x2⟩
          · rw [hp, xbR_s]
            rcases hp2 with rfl | rfl
            · rw [if_neg (show ¬ (if (4 : Int) = 4 then (1 : Int) else 0) = 0 by decide), c162]
            · rw [if_pos (show (if (5 : Int) = 4 then (1 : Int) else 0) = 0 from rfl), c162]
          · unfold f_M_readOne_134
            rw [a2, xbW_s, xlet_s]
            exact x1
        have cl2 : ∃ σ' τ', (xbR (f_Tokens_is 147 σa) fun r22 => if r22 = 0 then (f_Sentence_readOne_162 ((g_Sentence_readAll F).1) ((g_Sentence_readAll F).2.1) ((g_Sentence_readAll F).2.2) 5 σa) else (f_Sentence_readOne_162 ((g_Sentence_readAll F).1) ((g_Sentence_readAll F).2.1) ((g_Sentence_readAll F).2.2) 4 σa)) = some (1, σ') ∧ f_M_readOne_134 ((g_M_readAnd F2).1) ((g_M_readAnd F2).2.1) ((g_M_readAnd F2).2.2.1) ((g_M_readAnd F2).2.2.2.1) ((g_M_readAnd F2).2.2.2.2) (w : Int) 1 τb = some (1, τ') ∧ SnE σ0 τ0 d n c en O S W σ τ σ' τ' := by
          rcases hw with hw | hw
          · subst hw
            refine cl 4 ?_ a147 (Or.inl rfl)
            rw [show w32 (50 + ((10 : Nat) : Int)) = 60 by decide +kernel]
            exact plain_lock b2 hS1 (Or.inl ⟨rfl, rfl⟩)
          · subst hw
            refine cl 5 ?_ a147 (Or.inr rfl)
            rw [show w32 (50 + ((11 : Nat) : Int)) = 61 by decide +kernel]
            exact plain_lock b2 hS1 (Or.inr ⟨rfl, rfl⟩)
        obtain ⟨σ1, τ1, y1, y2, y3⟩ := cl2
        have z1 : (if 12 ≤ w then (1 : Int) else 0) = 0 := if_neg (by omega)
        have z2 : ¬ (if w = 10 ∨ w = 11 then (1 : Int) else 0) = 0 := by
          rw [if_pos hw]
          decide
        have z3 : ¬ (w : Int) = 8 := by omega
        have z4 : ∀ A B : Option (Int × xSt), (if (w : Int) = 10 then A else (if (w : Int) = 11 then A else B)) = A := fun A B => by
          rcases hw with hw | hw
          · rw [if_pos (by omega)]
          · rw [if_neg (by omega), if_pos (by omega)]
        rw [if_pos z1, if_neg z2, if_neg z3, z4]
        exact Or.inl ⟨σ1, τ1, y1, y2, y3⟩
      · -- place
        subst hw
        have c12 : ((12 : Nat) : Int) = 12 := rfl
        have n8 : ¬ (12 : Int) = 8 := by decide
        have n9 : ¬ (12 : Int) = 9 := by decide
        have n10 : ¬ (12 : Int) = 10 := by decide
        have n11 : ¬ (12 : Int) = 11 := by decide
        have xs : f_Sentence_readSized σa = szT 6 σb := by
          unfold f_Sentence_readSized f_Sentence_readSized_16
          rw [a145, xbR_s, if_neg (show ¬ (if (12 : Nat) = 12 then (1 : Int) else 0) = 0 by decide), b1, xbR_s]
          rfl
        rw [if_neg (show ¬ (if (12 : Nat) ≤ 12 then (1 : Int) else 0) = 0 by decide), c12, if_neg n8, if_neg n10, if_neg n11, if_neg n9, xs]
        rcases comp_lock (en := en) b2 hS1 (p := 6) (w := 12) (r := 62) (Or.inl ⟨rfl, rfl⟩) (by decide +kernel) with ⟨σ1, τ1, a1, a2, a3⟩ | ⟨σ1, τ1, a1, a2, a3⟩
        · obtain ⟨x1, x2⟩ := leafOut σ1 τ1 a3
          refine Or.inl ⟨σ1, _, ?_, ?_, x2⟩
          · rw [a1, xbW_s]; rfl
          · rw [a2, xbW_s]
            exact x1
        · obtain ⟨τ2, y1, y2⟩ := failOut 0 σ1 τ1 a3
          refine Or.inr ⟨σ1, τ2, ?_, ?_, y2⟩
          · rw [a1, xbW_s]; rfl
          · rw [a2, xbW_s]
            exact y1
      · -- knots
        subst hw
        have c12 : ((13 : Nat) : Int) = 13 := rfl
        have n8 : ¬ (13 : Int) = 8 := by decide
        have n9 : ¬ (13 : Int) = 9 := by decide
        have n10 : ¬ (13 : Int) = 10 := by decide
        have n11 : ¬ (13 : Int) = 11 := by decide
        have xs : f_Sentence_readSized σa = szT 7 σb := by
          unfold f_Sentence_readSized f_Sentence_readSized_16
          rw [a145, xbR_s, if_pos (show (if (12 : Nat) = 13 then (1 : Int) else 0) = 0 from rfl), b1, xbR_s]
          rfl
        rw [if_neg (show ¬ (if (12 : Nat) ≤ 13 then (1 : Int) else 0) = 0 by decide), c12, if_neg n8, if_neg n10, if_neg n11, if_neg n9, xs]
        rcases comp_lock (en := en) b2 hS1 (p := 7) (w := 13) (r := 63) (Or.inr ⟨rfl, rfl⟩) (by decide +kernel) with ⟨σ1, τ1, a1, a2, a3⟩ | ⟨σ1, τ1, a1, a2, a3⟩
        · obtain ⟨x1, x2⟩ := leafOut σ1 τ1 a3
          refine Or.inl ⟨σ1, _, ?_, ?_, x2⟩
          · rw [a1, xbW_s]; rfl
          · rw [a2, xbW_s]
            exact x1
        · obtain ⟨τ2, y1, y2⟩ := failOut 0 σ1 τ1 a3
          refine Or.inr ⟨σ1, τ2, ?_, ?_, y2⟩
          · rw [a1, xbW_s]; rfl
          · rw [a2, xbW_s]
            exact y1
  · have i144 := q4 144 8 (by decide) (by decide) (by decide)
    have i149 := q4 149 9 (by decide) (by decide) (by decide)
    have i147 := q4 147 10 (by decide) (by decide) (by decide)
    have i148 := q4 148 11 (by decide) (by decide) (by decide)
    have i145 := q4 145 12 (by decide) (by decide) (by decide)
    have i146 := q4 146 13 (by decide) (by decide) (by decide)
    have m0 : f0_M_readOne ((g_M_readAnd F2).1) ((g_M_readAnd F2).2.1) ((g_M_readAnd F2).2.2.1) ((g_M_readAnd F2).2.2.2.1) ((g_M_readAnd F2).2.2.2.2) τ = f_M_readOne_30 ((g_M_readAnd F2).1) ((g_M_readAnd F2).2.1) ((g_M_readAnd F2).2.2.1) ((g_M_readAnd F2).2.2.2.1) ((g_M_readAnd F2).2.2.2.2) u ((14 : Nat) : Int) τ := by
      unfold f0_M_readOne
      rw [u2, xbR_s]
      exact m_one10 (l1 := u) (w := 14) (τ := τ) (by decide) (fun k k1 k2 => q3 k k1 (by omega)) (fun z => absurd z (by decide)) 6 1000000 8 (by decide) (by decide) (by decide)
    rcases u0 with hu | hu
    · subst hu
      obtain ⟨σ', τ', a1, a2, a3, a4, a5, a6⟩ := hh.fail h9 (p := 1) (fun _ => rfl)
      refine Or.inr ⟨σ', τ', ?_, ?_, a3, kX.fail a5, kM.bad a6⟩
      · unfold f0_Sentence_readOne f_Sentence_readOne_34 f_Sentence_readOne_39 f_Sentence_readOne_59 f_Sentence_readOne_64
        rw [i144, xbR_s, u1, xbR_s, i145, xbR_s, if_pos rfl, i146, xbR_s, if_pos rfl, i147, xbR_s, if_pos rfl, i148, xbR_s, if_pos rfl, if_pos rfl, if_pos rfl, if_pos rfl, if_pos rfl, i149, xbR_s, if_pos rfl, a1, xbW_s]
        rfl
      · rw [m0]
        unfold f_M_readOne_30
        rw [if_pos rfl, if_pos (by decide), a2, xbW_s]
        rfl
    · subst hu
      have s6 := (sgn1 u1).1
      have t4 := sgnM1 u2
      have x0 : f0_Sentence_readOne ((g_Sentence_readAll F).1) ((g_Sentence_readAll F).2.1) ((g_Sentence_readAll F).2.2) ((W + 1 : Nat) : Int) σ = f_Sentence_readOne_101 ((g_Sentence_readAll F).1) ((g_Sentence_readAll F).2.1) ((g_Sentence_readAll F).2.2) ((W + 1 : Nat) : Int) 0 1 0 0 σ := by
        unfold f0_Sentence_readOne f_Sentence_readOne_34 f_Sentence_readOne_39 f_Sentence_readOne_59 f_Sentence_readOne_64
        rw [i144, xbR_s, u1, xbR_s, i145, xbR_s, if_pos rfl, i146, xbR_s, if_pos rfl, i147, xbR_s, if_pos rfl, i148, xbR_s, if_pos rfl, if_pos rfl, if_neg (by decide)]
      have m30 : f_M_readOne_30 ((g_M_readAnd F2).1) ((g_M_readAnd F2).2.1) ((g_M_readAnd F2).2.2.1) ((g_M_readAnd F2).2.2.2.1) ((g_M_readAnd F2).2.2.2.2) 1 ((14 : Nat) : Int) τ = f_M_readOne_46 ((g_M_readAnd F2).1) ((g_M_readAnd F2).2.1) ((g_M_readAnd F2).2.2.1) ((g_M_readAnd F2).2.2.2.1) ((g_M_readAnd F2).2.2.2.2) 1 ((14 : Nat) : Int) τ := by
        unfold f_M_readOne_30
        rw [if_neg (by decide)]
      rw [x0, m0, m30]
      by_cases hm : O = 20 ∨ W = 8
      · obtain ⟨σ', τ', a1, a2, a3⟩ := many (by omega) hm 0 1 0 0 1 ((14 : Nat) : Int)
        exact Or.inr ⟨σ', τ', a1, a2, a3⟩
      · obtain ⟨σb, τb, b1, b2, b3, b4, b5⟩ := inn (by omega) (by omega) (by omega) (by omega)
        obtain ⟨D', hD'⟩ : ∃ D', D = D' + 1 := ⟨D - 1, by omega⟩
        obtain ⟨F2, rfl⟩ : ∃ n2, F2 = n2 + 1 := ⟨F2 - 1, by omega⟩
        have hC := cond_of (ih D' hD') (F := F) (F2 := F2) (by omega) (by omega)
        have n1' : ¬ (1 : Int) = 0 := by decide
        rw [b4, b5, if_pos rfl, if_pos rfl, if_pos rfl, if_neg n1', if_neg n1']
        have mb : (g_M_readAnd (F2 + 1)).2.1 τb = (xbW ((g_M_readAnd F2).2.2.2.2 τb) fun r1 σ2 => if r1 = 0 then (some (0, σ2)) else (xbW (f_M_readSign 41 σ2) fun r3 σ4 => some (xnb r3, σ4))) := rfl
        rcases hC (i + 1) (O + 1) S σb τb b2 with ⟨σ1, τ1, a1, a2, i1, O1, S1, c1, c2, c3, c4, c5, c6⟩ | ⟨σ1, τ1, a1, a2, a3⟩
        · have a1 : (g_Sentence_readAll F).2.1 ((W + 1 + 1 : Nat) : Int) σb = some (1, σ1) := a1
          have a2 : (g_M_readAnd F2).2.2.2.2 τb = some (1, τ1) := a2
          rcases c1.pass 41 with ⟨σ2, τ2, w1, w2, w3, w4, w5⟩ | ⟨σ2, τ2, w1, w2, w3⟩
          · have kk := Kps.step (S := S1) w4 w5
            obtain ⟨x1, x2⟩ := one_fin (O := O) b3 w3 (by rw [w5 111 74 (fun _ => by decide)]; exact c2) (by omega) (by omega) (c5.tr (Kps.step (S := S) w4 w5) (Nat.le_refl S)) (c6.cg kk.1 kk.2)
            refine Or.inl ⟨σ2, _, ?_, ?_, x2⟩
            · rw [a1, xbW_s, if_neg (by decide), w1, xbW_s, if_neg (by decide)]
            · rw [mb, a2, xbW_s, if_neg (by decide), w2, xbW_s, xbW_s]
              exact goodOut _ x1
          · obtain ⟨τ3, y1, y2⟩ := failOut 0 σ2 τ2 w3
            refine Or.inr ⟨σ2, τ3, ?_, ?_, y2⟩
            · rw [a1, xbW_s, if_neg (by decide), w1, xbW_s, if_pos rfl]
            · rw [mb, a2, xbW_s, if_neg (by decide), w2, xbW_s, xbW_s]
              exact y1
        · have a1 : (g_Sentence_readAll F).2.1 ((W + 1 + 1 : Nat) : Int) σb = some (0, σ1) := a1
          have a2 : (g_M_readAnd F2).2.2.2.2 τb = some (0, τ1) := a2
          obtain ⟨τ3, y1, y2⟩ := failOut 0 σ1 τ1 a3
          refine Or.inr ⟨σ1, τ3, ?_, ?_, y2⟩
          · rw [a1, xbW_s, if_pos rfl]
          · rw [mb, a2, xbW_s, if_pos rfl, xbW_s]
            exact y1
theorem one_lock (hG : Inv0 G) (hX : ∀ a q, 7 ≤ a → a ≤ 15 → σ0 a q = G a q) (h113 : ∀ q, τ0 113 q = G 113 q) (h117 : ∀ q, τ0 117 q = G 117 q) (hen : en = G 7 2) : ∀ D W : Nat, D + W = 8 → OneL σ0 τ0 d n c en D W := by
  intro D
  induction D with
  | zero => exact fun W hD => one_step hG hX h113 h117 hen 0 W hD (fun D' hD' => absurd hD' (by omega))
  | succ D ih => exact fun W hD => one_step hG hX h113 h117 hen (D + 1) W hD (fun D' hD' => by
      have e : D' = D := by omega
      rw [e]
      exact ih (W + 1) (by omega))
end
