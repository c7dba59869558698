/-! TABLES: the call, both sides -/
theorem tab_read {σ : xSt} (h : Inv0 σ) : ∃ σ2, f_Tokens_begin (σ 0 1) 500 (upS σ 0 1 0) = some σ2 ∧ (∀ a k, (a < 2 ∨ 5 < a) → σ2 a k = upS σ 0 1 0 a k) ∧ ∀ s : xSt, (∀ a k, 111 ≤ a → (a = 111 → k ≠ 0) → s a k = σ a k) → ∃ τ, (∀ a k, (a = 111 → k < 2 ∨ 12 < k) → τ a k = gLay (σ 111 22) (upS s 111 0 0) a k) ∧ τ 111 2 = 0 ∧
    ((∃ (σ' τ' : xSt) (T E : Nat) (op : Int) (cs : Nat), f_Table_read σ2 = some (1, σ') ∧ f_M_table s = tabEnd ((T + E : Nat) : Int) τ' ∧ TbO T E op cs σ' τ' ∧ σ' 2 9 = 0 ∧ τ' 111 10 = 0 ∧ KpX tbW σ2 σ' ∧ KpM tbV τ τ') ∨
     (∃ σ' τ' : xSt, f_Table_read σ2 = some (0, σ') ∧ f_M_table s = some (w32 ((-1) - (τ' 111 11)), τ') ∧ Flt σ' τ' ∧ KpX tbW σ2 σ' ∧ KpM tbV τ τ')) := by
  obtain ⟨n, c, σ2, t1, t2, t3, t4, t5, t6⟩ := tok_start h (lim := 500) (by decide)
  have t2 : f_Tokens_begin (σ 0 1) 500 (upS σ 0 1 0) = some σ2 := t2
  refine ⟨σ2, t2, t5, fun s hs => ?_⟩
  obtain ⟨τ, b1, b2, b3, b4, b5⟩ := t6 s hs
  have b1 : f_M_begin 500 s = some τ := b1
  refine ⟨τ, b5, b4, ?_⟩
  obtain ⟨τ9, k1, k2, k3, k4⟩ := m_tab9 41 1000000 0 τ (by decide) (by decide)
  rw [c0n] at k1
  obtain ⟨σ3, hσ3⟩ : ∃ σ3, σ3 = upS (upS (upS σ2 27 1 0) 27 2 0) 27 3 (-1) := ⟨_, rfl⟩
  obtain ⟨τ3, hτ3⟩ : ∃ τ3, τ3 = upS τ9 114 2 (-1) := ⟨_, rfl⟩
  have σ3n : ∀ a q, a ≠ 27 → σ3 a q = σ2 a q := fun a q z => by rw [hσ3, upS_ne z, upS_ne z, upS_ne z]
  have τ3n : ∀ a q, a ≠ 114 → τ3 a q = τ a q := fun a q z => by rw [hτ3, upS_ne z, k4 a q z]
  have τ3z : ∀ q, q < 41 → q ≠ 2 → τ3 114 q = 0 := fun q z1 z2 => by rw [hτ3, upS_nk z2, k2 q (Nat.zero_le q) z1]
  have kX0 : KpX tbW σ2 σ3 := fun a q z1 z2 => σ3n a q (fun y => z2 (by unfold tbW; omega))
  have kM0 : KpM tbV τ τ3 := fun a q z1 z2 => τ3n a q (fun y => z2 (Or.inl y))
  have hR : TbR σ2 τ (σ 112) n c 0 0 0 (-1) 0 σ3 τ3 := ⟨b2.cg (fun a k z1 z2 => σ3n a k (by omega)) (fun q z1 z2 => τ3n 111 q (by decide)) (fun q => τ3n 112 q (by decide)), by rw [σ3n 2 9 (by decide)]; exact t3, by rw [τ3n 111 10 (by decide)]; exact b3, kX0, kM0, by rw [hσ3]; rfl, by rw [τ3z 0 (by decide) (by decide)]; rfl, by decide, by rw [hσ3]; rfl, by rw [τ3z 1 (by decide) (by decide)]; rfl, by decide, by rw [hσ3]; rfl, by rw [hτ3, upS_eq], by decide, by decide, by rw [τ3z 40 (by decide) (by decide)]; rfl, by decide, fun t ht => absurd ht (Nat.not_lt_zero t), fun e he => absurd he (Nat.not_lt_zero e)⟩
  have xr : f_Table_read σ2 = f_Table_read_17 1000000 ((0 + 0 : Nat) : Int) σ3 := by
    unfold f_Table_read
    rw [xlet_s, xlet_s, xlet_s, hσ3]
    rfl
  have mr : f_M_table s = f_M_table_37 1000000 ((0 + 0 : Nat) : Int) τ3 := by
    unfold f_M_table
    rw [b1, xbR_s, k1, hτ3]
    rfl
  rcases tab_loop 10 1000000 1000000 0 0 0 (-1) 0 σ3 τ3 (by decide) (by decide) (by decide) hR with ⟨σ', τ', T, E, op, cs, a1, a2, a3, a4, a5, a6, a7⟩ | ⟨σ', τ', a1, a2, a3, a4, a5⟩
  · exact Or.inl ⟨σ', τ', T, E, op, cs, xr.trans a1, mr.trans a2, a3, a4, a5, a6, a7⟩
  · exact Or.inr ⟨σ', τ', xr.trans a1, mr.trans a2, a3, a4, a5⟩
def s_tm : xZ := [(111, [2, 3, 4, 5, 6, 7, 8, 9, 10, 11, 12, 13, 23, 24]), (113, []), (114, []), (117, []), (118, [])]
theorem s_tm_out {a k : Nat} (h : inS s_tm a k = false) : (a = 111 → k < 2 ∨ 13 < k ∧ k < 23 ∨ 24 < k) ∧ a ≠ 113 ∧ a ≠ 114 ∧ a ≠ 117 ∧ a ≠ 118 := by
  have key : ∀ k : Fin 25, inS s_tm 111 k.val = false → (k.val < 2 ∨ 13 < k.val ∧ k.val < 23) := by decide +kernel
  have h2 : a = 111 → k < 2 ∨ 13 < k ∧ k < 23 ∨ 24 < k := by
    rintro rfl
    rcases Nat.lt_or_ge k 25 with z | z
    · have := key ⟨k, z⟩ h
      have this : k < 2 ∨ 13 < k ∧ k < 23 := this
      omega
    · omega
  refine ⟨h2, ?_, ?_, ?_, ?_⟩ <;> (rintro rfl; cases h)
def s_tm' : xZ := [(111, [2, 3, 4, 5, 6, 7, 8, 9, 10, 11, 12, 13, 24]), (114, []), (118, [])]
theorem s_tm'_out {a k : Nat} (h : inS s_tm' a k = false) : (a = 111 → k < 2 ∨ 13 < k ∧ k < 24 ∨ 24 < k) ∧ a ≠ 114 ∧ a ≠ 118 := by
  have key : ∀ k : Fin 25, inS s_tm' 111 k.val = false → (k.val < 2 ∨ 13 < k.val ∧ k.val < 24) := by decide +kernel
  have h2 : a = 111 → k < 2 ∨ 13 < k ∧ k < 24 ∨ 24 < k := by
    rintro rfl
    rcases Nat.lt_or_ge k 25 with z | z
    · have := key ⟨k, z⟩ h
      have this : k < 2 ∨ 13 < k ∧ k < 24 := this
      omega
    · omega
  refine ⟨h2, ?_, ?_⟩ <;> (rintro rfl; cases h)
def s_tf : xZ := [(0, [1, 3]), (2, [4, 5, 6, 7, 8, 9, 10]), (3, []), (4, []), (5, []), (27, [1, 2, 3]), (28, []), (29, []), (30, []), (31, []), (32, []), (33, []), (34, []), (35, [])]
theorem sim_table {n : Nat} : SimW (InvN (n + 1)) (InvN n) f_X_table f_M_table := by
  intro σ hσ
  obtain ⟨h, hn⟩ := hσ
  obtain ⟨hl, hIG, h22, g7, gc⟩ := lay0 h
  have hT : f_X_takeTape σ = some (σ 0 1, upS σ 0 1 0) := by
    unfold f_X_takeTape
    rw [xlet_s, xlet_s]
  obtain ⟨σ2, t2, t5, lock⟩ := tab_read h
  obtain ⟨_, _, _, c0⟩ := lock σ (fun _ _ _ _ => rfl)
  rcases c0 with ⟨σ', _, _, _, _, _, a1, _⟩ | ⟨σ', _, a1, _⟩
  · have FJ : Fr s_Table_read σ2 σ' := fr_Table_read a1
    have h07 : 0 ≤ σ 0 7 ∧ σ 0 7 < 1000 := by
      have b := h.2.2.2.2.2.2.2.1
      have b1 := b.1
      have b2 := b.2.1
      omega
    have n07 : σ' 0 7 = σ 0 7 := by rw [FJ 0 7 rfl, t5 0 7 (by decide), upS_nk (by decide)]
    have m07 : σ 0 7 = σ 111 23 := h.2.2.2.2.2.1.2.1
    have w07 : w32 (σ 0 7 + 1) = σ 0 7 + 1 := w32_o (by omega) (by omega)
    obtain ⟨s8, hs8⟩ : ∃ s8, s8 = upS (upS (upS σ' 0 3 (σ' 2 9)) 0 7 (σ 0 7 + 1)) 27 0 (σ 0 7 + 1) := ⟨_, rfl⟩
    obtain ⟨s9, x1, x2, x3, x4, x5, x6⟩ := x_ctab (a0 := 7) (a1 := 27) (by decide) s8
    obtain ⟨s1, hs1⟩ : ∃ s1, s1 = upS (upS (upS (upS s9 16 0 0) 16 1 0) 22 0 0) 22 1 0 := ⟨_, rfl⟩
    have hXe : f_X_table σ = some (w32 (s1 7 1 + s1 7 2), s1) := by
      unfold f_X_table f_Way_clear f_Sentence_clear
      rw [hT, xbW_s, t2, xbR_s, a1, xbW_s, xlet_s, if_neg (by decide), upS_nk (by decide), n07, w07, xlet_s, upS_eq, xlet_s, ← hs8, x1, xbR_s, xlet_s, xlet_s, xbR_s, xlet_s, xlet_s, xbR_s, ← hs1]
    clear w07
    have FX : Fr s_X_table σ s1 := fr_X_table hXe
    have sM : ∀ a k, 111 ≤ a → s1 a k = σ a k := fun a k z => FX a k (inS_lo rfl z)
    have s1n : ∀ a k, a ≠ 16 → a ≠ 22 → s1 a k = s9 a k := fun a k z1 z2 => by rw [hs1, upS_ne z2, upS_ne z2, upS_ne z1, upS_ne z1]
    have s8n : ∀ a k, (a = 0 → k ≠ 3 ∧ k ≠ 7) → (a = 27 → k ≠ 0) → s8 a k = σ' a k := fun a k z1 z2 => by
      rw [hs8, upS_rd, if_neg (fun y => z2 y.1 y.2), upS_rd, if_neg (fun y => (z1 y.1).2 y.2), upS_rd, if_neg (fun y => (z1 y.1).1 y.2)]
    have s9n : ∀ a k, (a < 7 ∨ 15 < a) → s9 a k = s8 a k := fun a k z => x6 a k (by omega)
    obtain ⟨τ, b5, b4, ⟨ρ, τ', T, E, op, cs, c1, c2, cO, c9, c10, cX, cM⟩ | ⟨ρ, _, c1, _⟩⟩ := lock s1 (fun a k z1 _ => sM a k z1)
    · rw [a1] at c1
      obtain rfl : σ' = ρ := (Prod.mk.inj (Option.some.inj c1)).2
      obtain ⟨o1, o2, o3, o4, o5, o6, o7, o8, o9, o10, o11, o12, hTh, hEn⟩ := cO
      have T100 : T + E < 100000 := by omega
      have q23 : τ' 111 23 = σ 0 7 := by
        rw [cM 111 23 (fun _ => by decide) (by unfold tbV; omega), b5 111 23 (fun _ => by decide), gLay_k (fun _ => by decide) (fun y => by omega), upS_nk (by decide), sM 111 23 (by decide), m07]
      have w07 : w32 (σ 0 7 + 1) = σ 0 7 + 1 := w32_o (by omega) (by omega)
      obtain ⟨τ4, hτ4⟩ : ∃ τ4, τ4 = upS (upS τ' 111 23 (σ 0 7 + 1)) 114 3 (σ 0 7 + 1) := ⟨_, rfl⟩
      obtain ⟨τ5, m1, m2, m3, m4⟩ := m_tab143 (l := ((T + E : Nat) : Int)) 41 1000000 0 τ4 (by decide) (by decide)
      obtain ⟨τ6, p1, p2, p3, p4⟩ := m_tab170 (l := ((T + E : Nat) : Int)) 883 1000000 41 τ5 (by decide) (by decide)
      obtain ⟨M, r1, r2, r3, r4⟩ := m_tab192 (l := ((T + E : Nat) : Int)) 9 1000000 0 τ6 (by decide) (by decide)
      rw [c0n] at m1 r1
      have hMt : f_M_table s1 = some (((T + E : Nat) : Int), M) := by
        rw [c2]
        unfold tabEnd
        rw [q23, w07, xlet_s, upS_eq, xlet_s, ← hτ4, m1]
        exact p1.trans r1
      clear w07 c2 m1 p1 r1
      have Mn : ∀ a q, a ≠ 113 → a ≠ 117 → a ≠ 114 → (a = 111 → q ≠ 23) → M a q = τ' a q := fun a q z1 z2 z3 z4 => by
        rw [r4 a q z2, p4 a q z1, m4 a q z1, hτ4, upS_ne z3, upS_rd, if_neg (fun y => z4 y.1 y.2)]
      have M113 : ∀ q, q < 41 → M 113 q = τ4 114 q := fun q hq => by rw [r4 113 q (by decide), p3 q hq, m2 q (Nat.zero_le q) hq]
      have M113z : ∀ q, 41 ≤ q → q < 924 → M 113 q = 0 := fun q h1 h2 => by rw [r4 113 q (by decide), p2 q h1 h2]
      have M113t : ∀ q, q < 41 → q ≠ 3 → M 113 q = τ' 114 q := fun q h1 h2 => by rw [M113 q h1, hτ4, upS_nk h2, upS_ne (by decide)]
      have M117 : ∀ q, q < 9 → M 117 q = τ' 118 q := fun q hq => by rw [r2 q (Nat.zero_le q) hq, p4 118 q (by decide), m4 118 q (by decide), hτ4, upS_ne (by decide), upS_ne (by decide)]
      have M23 : M 111 23 = σ 0 7 + 1 := by rw [r4 111 23 (by decide), p4 111 23 (by decide), m4 111 23 (by decide), hτ4, upS_ne (by decide), upS_eq]
      have F1 : Fr (s_X_table ++ s_tm) (gLay (σ 111 22) (upS σ 111 0 0)) (gLay (σ 111 22) (upS s1 111 0 0)) := (gLay_fr (Fr.both FX)).mono rfl
      have F2 : Fr s_tm (gLay (σ 111 22) (upS s1 111 0 0)) M := fun a k hk => by
        obtain ⟨y1, y2, y3, y4, y5⟩ := s_tm_out hk
        rw [Mn a k y2 y4 y3 (fun y => by have := y1 y; omega), cM a k (fun y => by have := y1 y; omega) (by unfold tbV; intro y; rcases y with y | y | ⟨y, z⟩; exact y3 y; exact y5 y; have := y1 y; omega), b5 a k (fun y => by have := y1 y; omega)]
      have F : Fr (s_X_table ++ s_tm) (gLay (σ 111 22) (upS σ 111 0 0)) M := Fr.call F1 F2 rfl
      have Ms : ∀ a k, a ≤ 110 → M a k = s1 a k := fun a k z => by
        rw [F2 a k (inS_no (fun e he => by
          unfold s_tm at he
          simp only [List.mem_cons, List.not_mem_nil, or_false] at he
          rcases he with rfl | rfl | rfl | rfl | rfl <;> (dsimp only; omega))), gLay_k (fun y => by omega) (fun y => by omega), upS_ne (by omega)]
      have M07 : M 0 7 = σ 0 7 + 1 := by rw [Ms 0 7 (by decide), s1n 0 7 (by decide) (by decide), s9n 0 7 (by decide), hs8, upS_ne (by decide), upS_eq]
      have M7 : ∀ k, k < 4 → M 7 k = s8 27 k := fun k hk => by rw [Ms 7 k (by decide), s1n 7 k (by decide) (by decide), x2 k hk]
      have M70 : M 7 0 = σ 0 7 + 1 := by rw [M7 0 (by decide), hs8, upS_eq]
      have M71 : M 7 1 = (T : Int) := by rw [M7 1 (by decide), s8n 27 1 (fun y => by omega) (fun _ => by decide), o1]
      have M72 : M 7 2 = (E : Int) := by rw [M7 2 (by decide), s8n 27 2 (fun y => by omega) (fun _ => by decide), o4]
      have M73 : M 7 3 = op := by rw [M7 3 (by decide), s8n 27 3 (fun y => by omega) (fun _ => by decide), o7]
      have mm22 : M 111 22 ≠ 0 := by rw [F 111 22 rfl]; exact h22
      have hop : opM M = op := by
        unfold opM
        rw [if_neg mm22, M113t 2 (by decide) (by decide), o8]
      have cTab : C_tab M := by
        refine ⟨?_, fun z => absurd z mm22⟩
        rw [hop]
        refine ⟨?_, ?_, ?_, ?_, ?_, ?_, ?_, M73, o9, ?_, ?_, ?_, fun t ht => ?_, fun e he => ?_⟩
        · rw [M70, Nat.zero_add, M113 3 (by decide), hτ4, upS_eq]
        · rw [M71, M113t 0 (by decide) (by decide), o2]
        · rw [M71]; omega
        · rw [M71]; omega
        · rw [M72, Nat.zero_add, M113t 1 (by decide) (by decide), o5]
        · rw [M72]; omega
        · rw [M72]; omega
        · rw [M71]; exact o10
        · rw [Nat.zero_add, M113t 40 (by decide) (by decide), o11]; omega
        · rw [Nat.zero_add, M113t 40 (by decide) (by decide), o11]
          have hp : 2 ^ T ≤ 8 := by
            rcases (show T = 0 ∨ T = 1 ∨ T = 2 ∨ T = 3 by omega) with z | z | z | z <;> rw [z] <;> decide
          omega
        · rw [M71] at ht
          have ht3 : t < 3 := by omega
          obtain ⟨y1, y2, y3, y4⟩ := x3 t ht3
          have q8 : ∀ a, 28 ≤ a → a ≤ 35 → ∀ k, s8 a k = σ' a k := fun a z1 z2 k => s8n a k (fun y => by omega) (fun y => by omega)
          refine ThD_fin (hTh t (by omega)) ht3 ?_ ?_ ?_ ?_ (fun k hk => ?_) (fun q z1 z2 => M113t q z2 (by omega)) M117 o11
          · rw [Ms 8 t (by decide), s1n 8 t (by decide) (by decide)]
            exact y1.trans (q8 28 (by decide) (by decide) t)
          · rw [Ms 9 t (by decide), s1n 9 t (by decide) (by decide), ← q8 29 (by decide) (by decide) t]
            exact y2
          · rw [Ms 10 t (by decide), s1n 10 t (by decide) (by decide)]
            exact y3.trans (q8 30 (by decide) (by decide) t)
          · rw [Ms 11 t (by decide), s1n 11 t (by decide) (by decide)]
            exact y4.trans (q8 31 (by decide) (by decide) t)
          · rw [Ms 12 k (by decide), s1n 12 k (by decide) (by decide)]
            exact (x4 k hk).trans (q8 32 (by decide) (by decide) k)
        · rw [M72] at he
          have he6 : e < 6 := by omega
          obtain ⟨y1, y2, y3⟩ := x5 e he6
          have q8 : ∀ a, 28 ≤ a → a ≤ 35 → ∀ k, s8 a k = σ' a k := fun a z1 z2 k => s8n a k (fun y => by omega) (fun y => by omega)
          refine EnD_fin (hEn e (by omega)) he6 ?_ ?_ ?_ (fun q z1 z2 => M113t q z2 (by omega)) M117
          · rw [Ms 13 e (by decide), s1n 13 e (by decide) (by decide)]
            exact y1.trans (q8 33 (by decide) (by decide) e)
          · rw [Ms 14 e (by decide), s1n 14 e (by decide) (by decide)]
            exact y2.trans (q8 34 (by decide) (by decide) e)
          · rw [Ms 15 e (by decide), s1n 15 e (by decide) (by decide)]
            exact y3.trans (q8 35 (by decide) (by decide) e)
      have M160 : M 16 0 = 0 := by rw [Ms 16 0 (by decide), hs1, upS_ne (by decide), upS_ne (by decide), upS_nk (by decide), upS_eq]
      have M161 : M 16 1 = 0 := by rw [Ms 16 1 (by decide), hs1, upS_ne (by decide), upS_ne (by decide), upS_eq]
      have M220 : M 22 0 = 0 := by rw [Ms 22 0 (by decide), hs1, upS_nk (by decide), upS_eq]
      have cWay : C_way M := by
        refine ⟨⟨?_, by omega, by omega, fun k hk => by omega, fun _ => M161, fun z => by omega⟩, fun z => absurd z mm22⟩
        rw [M160, Nat.zero_add, M113z 41 (by decide) (by decide)]
      have cSen : C_sen M := by
        refine ⟨⟨by omega, by omega, Or.inl ⟨M220, ?_⟩⟩, fun z => absurd z mm22⟩
        rw [Nat.zero_add, M113z 682 (by decide) (by decide)]
      obtain ⟨z1, z2, z3, z4, z5, z6, z7, z8⟩ := hIG
      have m2' : M 111 2 = 0 := by
        rw [Mn 111 2 (by decide) (by decide) (by decide) (fun _ => by decide), cM 111 2 (fun _ => by decide) (fun y => by unfold tbV at y; omega), b4]
      have m01 : M 0 1 = 0 := by
        rw [Ms 0 1 (by decide), s1n 0 1 (by decide) (by decide), s9n 0 1 (by decide), s8n 0 1 (fun _ => by decide) (fun y => by omega), FJ 0 1 rfl, t5 0 1 (by decide), upS_eq]
      have m03 : M 0 3 = M 111 10 := by
        rw [Ms 0 3 (by decide), s1n 0 3 (by decide) (by decide), s9n 0 3 (by decide), hs8, upS_ne (by decide), upS_nk (by decide), upS_eq, c9, Mn 111 10 (by decide) (by decide) (by decide) (fun _ => by decide), c10]
      refine ⟨w32 (s1 7 1 + s1 7 2), s1, M, hXe, ?_, ⟨⟨by omega, by omega, by rw [m2', m01], fun k hk => by omega⟩, cTab, cWay, cSen, z5.ag (F.ag rfl), told_t z6 (F.ag rfl) m03 (by rw [M07, M23]) (by rw [M07]; exact ⟨by omega, by omega⟩), z7.ag (F.ag rfl), best_t z8 (F.ag rfl) (by rw [M07, g7]) (by rw [M70, M07])⟩, by rw [M07]; omega⟩
      rw [hMt, ← Ms 7 1 (by decide), ← Ms 7 2 (by decide), M71, M72, w32_nn T100]
    · rw [a1] at c1
      cases c1
  · have FJ : Fr s_Table_read σ2 σ' := fr_Table_read a1
    obtain ⟨s1, hs1⟩ : ∃ s1, s1 = upS σ' 0 3 (σ' 2 9) := ⟨_, rfl⟩
    have hXe : f_X_table σ = some (w32 ((-1) - (s1 2 10)), s1) := by
      unfold f_X_table
      rw [hT, xbW_s, t2, xbR_s, a1, xbW_s, xlet_s, if_pos rfl, hs1]
    have FX : Fr s_X_table σ s1 := fr_X_table hXe
    have sM : ∀ a k, 111 ≤ a → s1 a k = σ a k := fun a k z => FX a k (inS_lo rfl z)
    have s1n : ∀ a k, (a = 0 → k ≠ 3) → s1 a k = σ' a k := fun a k z2 => by
      rw [hs1, upS_rd, if_neg (fun y => z2 y.1 y.2)]
    have s01 : s1 0 1 = 0 := by rw [s1n 0 1 (fun _ => by decide), FJ 0 1 rfl, t5 0 1 (by decide), upS_eq]
    obtain ⟨τ, b5, b4, ⟨ρ, _, _, _, _, _, c1, _⟩ | ⟨ρ, M, c1, c2, ⟨c3, c4⟩, cX, cM⟩⟩ := lock s1 (fun a k z1 _ => sM a k z1)
    · rw [a1] at c1
      cases c1
    · rw [a1] at c1
      obtain rfl : σ' = ρ := (Prod.mk.inj (Option.some.inj c1)).2
      have FS : Fr s_tf σ s1 := Fr.up (Fr.call (Fr.call (Fr.up Fr.rf rfl rfl) (fr_Tokens_begin t2) rfl) (fr_Table_read a1) rfl) hs1 rfl
      have F1 : Fr (s_tf ++ s_tm') (gLay (σ 111 22) (upS σ 111 0 0)) (gLay (σ 111 22) (upS s1 111 0 0)) := (gLay_fr (Fr.both FS)).mono rfl
      have F2 : Fr s_tm' (gLay (σ 111 22) (upS s1 111 0 0)) M := fun a k hk => by
        obtain ⟨y1, y3, y5⟩ := s_tm'_out hk
        rw [cM a k (fun y => by have := y1 y; omega) (by unfold tbV; intro y; rcases y with y | y | ⟨y, z⟩; exact y3 y; exact y5 y; have := y1 y; omega), b5 a k (fun y => by have := y1 y; omega)]
      have F : Fr (s_tf ++ s_tm') (gLay (σ 111 22) (upS σ 111 0 0)) M := Fr.call F1 F2 rfl
      have m01 : M 0 1 = 0 := by
        rw [F2 0 1 rfl, gLay_k (fun y => by omega) (fun y => by omega), upS_ne (by decide), s01]
      have m03 : M 0 3 = M 111 10 := by
        rw [F2 0 3 rfl, gLay_k (fun y => by omega) (fun y => by omega), upS_ne (by decide), hs1, upS_eq, c3]
      have m2' : M 111 2 = 0 := by
        rw [cM 111 2 (fun _ => by decide) (fun y => by unfold tbV at y; omega), b4]
      refine ⟨w32 ((-1) - (s1 2 10)), s1, M, hXe, ?_, ⟨inv_p hIG F rfl m2' m01 (told_p hIG.2.2.2.2.2.1 (F.ag rfl) m03), by rw [F 0 7 rfl, g7]; omega⟩⟩
      rw [c2, s1n 2 10 (by decide), c4]
