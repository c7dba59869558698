/-! EVENINGS: the call -/
theorem inS_lo {L : xZ} (hL : L.all (fun e => Nat.blt e.1 111) = true) {a k : Nat} (ha : 111 ≤ a) : inS L a k = false := by
  cases hq : inS L a k with
  | false => rfl
  | true =>
    obtain ⟨e, he, rfl, -⟩ := inS_of hq
    have h1 := Nat.le_of_ble_eq_true (List.all_eq_true.mp hL e he)
    omega
theorem evEnd_ok {G σ τ : xSt} {l : Nat} (hG : Inv0 G) (e2 : ∀ q, τ 113 q = G 113 q) (J : EvJ G l σ τ) : ∃ v : Int, (∀ s : xSt, (∀ a q, 7 ≤ a → a ≤ 21 → s a q = G a q) → f_Way_endAt (σ 96 1) s = some v) ∧ evEnd τ = some (τ 111 37, upS (upS (upS (upS τ 124 0 (τ 111 36)) 124 1 (τ 111 38)) 124 2 (τ 111 39)) 124 3 v) := by
  obtain ⟨k, r, j1, j2, j3, -⟩ := J
  obtain ⟨n1, n2, n3⟩ := hG.nodes
  obtain ⟨d1, d2, d3, -, d5⟩ := hG.nd (p := (k : Int)) (Int.natCast_nonneg k) j3
  rw [Int.toNat_natCast] at d1 d2 d3 d5
  have k80 : (k : Int) < 80 := by omega
  refine ⟨if G 17 k = 0 then G 18 k else -1, fun s e1 => ?_, ?_⟩
  · have s16 : s 16 0 = G 16 0 := e1 16 0 (by decide) (by decide)
    have xs : f_Way_sortAt (k : Int) s = some (G 17 k) := by rw [x_sortAt (by rw [s16]; exact n3), s16, if_pos ⟨Int.natCast_nonneg k, j3⟩, Int.toNat_natCast, e1 17 k (by decide) (by decide)]
    have xw : f_Way_whichAt (k : Int) s = some (G 18 k) := by rw [x_whichAt (by rw [s16]; exact n3), s16, if_pos ⟨Int.natCast_nonneg k, j3⟩, Int.toNat_natCast, e1 18 k (by decide) (by decide)]
    unfold f_Way_endAt
    rw [j1, xs, xbR_s]
    by_cases z : G 17 k = 0
    · rw [if_pos z, if_pos z, xw, xbR_s]
    · rw [if_neg z, if_neg z]
  · obtain ⟨u, hu⟩ : ∃ u, u = upS (upS (upS τ 124 0 (τ 111 36)) 124 1 (τ 111 38)) 124 2 (τ 111 39) := ⟨_, rfl⟩
    have u113 : ∀ q, u 113 q = G 113 q := fun q => by rw [hu, upS_ne (by decide), upS_ne (by decide), upS_ne (by decide), e2]
    have u34 : u 111 34 = (k : Int) := by rw [hu, upS_ne (by decide), upS_ne (by decide), upS_ne (by decide), j2]
    have u37 : u 111 37 = τ 111 37 := by rw [hu, upS_ne (by decide), upS_ne (by decide), upS_ne (by decide)]
    have ms : f_M_sortOf (k : Int) u = some (G 17 k) := by rw [m_sortOf (Int.natCast_nonneg k) k80, Int.toNat_natCast, u113, d1]
    have mw : f_M_whichOf (k : Int) u = some (G 18 k) := by rw [m_whichOf (Int.natCast_nonneg k) k80, Int.toNat_natCast, u113, d2]
    have e161 : ∀ x : Int, f_M_evening_161 x 3 u = some (τ 111 37, upS u 124 3 x) := fun x => by
      unfold f_M_evening_161
      rw [if_pos (by decide), xlet_s, upS_ne (by decide), u37]
      rfl
    unfold evEnd
    rw [xlet_s, upS_ne (by decide), xlet_s, upS_ne (by decide), upS_ne (by decide), xlet_s, ← hu, u34, ms, xbR_s]
    by_cases z : G 17 k = 0
    · rw [if_pos z, if_pos z, mw, xbR_s, e161]
    · rw [if_neg z, if_neg z, e161]
theorem keep_ok {G σ : xSt} {v : Int} (e1 : ∀ a q, 7 ≤ a → a ≤ 21 → σ a q = G a q) (hv : ∀ s : xSt, (∀ a q, 7 ≤ a → a ≤ 21 → s a q = G a q) → f_Way_endAt (σ 96 1) s = some v) : f_Judge_keep σ = some (upS (upS (upS (upS (upS σ 96 6 1) 97 0 (σ 96 3)) 97 1 (σ 96 4)) 97 2 (σ 96 5)) 97 3 v) := by
  unfold f_Judge_keep
  rw [xlet_s, upS_nk (by decide), xlet_s, upS_ne (by decide), upS_nk (by decide), xlet_s, upS_ne (by decide), upS_ne (by decide), upS_nk (by decide), xlet_s, upS_ne (by decide), upS_ne (by decide), upS_ne (by decide), upS_nk (by decide), hv _ (fun a q z1 z2 => by
    rw [upS_ne (by omega), upS_ne (by omega), upS_ne (by omega), upS_ne (by omega), e1 a q z1 z2]), xbR_s, xlet_s]
def s_em : xZ := [(111, [2, 3, 4, 5, 6, 7, 8, 9, 10, 11, 12, 13, 34, 35, 36, 37, 38, 39, 40]), (124, [])]
theorem s_em_out {a k : Nat} (h : inS s_em a k = false) : a ≠ 124 ∧ (a = 111 → k < 2 ∨ 13 < k) ∧ ¬ evV a k := by
  have key : ∀ k : Fin 41, inS s_em 111 k.val = false → (k.val < 2 ∨ 13 < k.val ∧ k.val < 34) := by decide +kernel
  have h2 : a = 111 → k < 2 ∨ 13 < k ∧ k < 34 ∨ 40 < k := by
    rintro rfl
    rcases Nat.lt_or_ge k 41 with z | z
    · have := key ⟨k, z⟩ h
      have this : k < 2 ∨ 13 < k ∧ k < 34 := this
      omega
    · omega
  refine ⟨(by rintro rfl; cases h), fun z => by have := h2 z; omega, ?_⟩
  rintro ⟨y1, y2, y3⟩
  have := h2 y1
  omega
theorem ev_fin {σ s1 M : xSt} (h : Inv0 σ) (FX : Fr s_X_evening σ s1) (x01 : s1 0 1 = 0) (hM : ∀ a k, a ≠ 124 → (a = 111 → k < 2 ∨ 13 < k) → ¬ evV a k → M a k = gLay (σ 111 22) (upS (upS s1 111 0 0) 111 0 0) a k) (m2 : M 111 2 = 0) (h1 : M 0 3 = M 111 10) (h2 : M 96 6 = 0 ∧ (∀ k : Nat, k < 4 → M 124 k = -1) ∨ M 96 6 = 1 ∧ ∀ k : Nat, k < 4 → M 97 k = M 124 k) : Inv0 M ∧ M 0 7 = σ 0 7 := by
  obtain ⟨hl, hIG, h22, g7, gc⟩ := lay0 h
  have hM2 : ∀ a k, a ≠ 124 → (a = 111 → k < 2 ∨ 13 < k) → ¬ evV a k → M a k = gLay (σ 111 22) (upS s1 111 0 0) a k := fun a k z1 z2 z3 => (hM a k z1 z2 z3).trans (gLay_cg (by
    rw [upS_rd]
    by_cases y : a = 111 ∧ k = 0
    · rw [if_pos y, y.1, y.2, upS_eq]
    · rw [if_neg y]))
  have F1 : Fr (s_X_evening ++ s_em) (gLay (σ 111 22) (upS σ 111 0 0)) (gLay (σ 111 22) (upS s1 111 0 0)) := (gLay_fr (Fr.both FX)).mono rfl
  have F2 : Fr s_em (gLay (σ 111 22) (upS s1 111 0 0)) M := fun a k hk => hM2 a k (s_em_out hk).1 (s_em_out hk).2.1 (s_em_out hk).2.2
  have F : Fr (s_X_evening ++ s_em) (gLay (σ 111 22) (upS σ 111 0 0)) M := Fr.call F1 F2 rfl
  have m01 : M 0 1 = 0 := by
    rw [F2 0 1 rfl, gLay_k (fun z => absurd z (by decide)) (fun z => absurd z (by decide)), upS_ne (by decide), x01]
  exact ⟨inv_p hIG F rfl m2 m01 (told_ev hIG.2.2.2.2.2.1 (F.ag rfl) h1 h2), by rw [F 0 7 rfl, g7]⟩
theorem sim_evening {n : Nat} : SimW (InvN (n + 1)) (InvN n) f_X_evening f_M_evening := by
  refine simW0 (fun σ h => ?_)
  obtain ⟨hl, hIG, h22, g7, gc⟩ := lay0 h
  obtain ⟨n1, n2, n3⟩ := h.nodes
  have hT : f_X_takeTape σ = some (σ 0 1, upS σ 0 1 0) := by
    unfold f_X_takeTape
    rw [xlet_s, xlet_s]
  by_cases hw : 0 < σ 16 0
  · have xw : f_Way_isTold (upS σ 0 1 0) = some 1 := by
      unfold f_Way_isTold
      rw [upS_ne (by decide), if_pos hw]
    obtain ⟨m, c, σ2, t1, t2, t3, t4, t5, t6⟩ := tok_start h (lim := 600) (by decide)
    have t2 : f_Tokens_begin (σ 0 1) 600 (upS σ 0 1 0) = some σ2 := t2
    obtain ⟨σ3, hσ3⟩ : ∃ σ3, σ3 = upS (upS (upS (upS (upS (upS σ2 96 0 0) 96 1 0) 96 2 (-1)) 96 3 0) 96 4 0) 96 5 0 := ⟨_, rfl⟩
    have xr : f_Judge_read σ2 = f_Judge_read_30 1000000 σ3 := by
      unfold f_Judge_read
      rw [xlet_s, xlet_s, xlet_s, xlet_s, xlet_s, xlet_s, hσ3]
    have σ3n : ∀ a q, a ≠ 96 → σ3 a q = σ2 a q := fun a q z => by
      rw [hσ3, upS_ne z, upS_ne z, upS_ne z, upS_ne z, upS_ne z, upS_ne z]
    have hX : ∀ a q, 7 ≤ a → a ≤ 21 → σ3 a q = gLay (σ 111 22) (upS σ 111 0 0) a q := fun a q z1 z2 => by
      rw [σ3n a q (by omega), t5 a q (by omega), upS_ne (by omega), gc a q (by omega)]
    have lock : ∀ s : xSt, (∀ a k, 111 ≤ a → (a = 111 → k ≠ 0) → s a k = σ a k) → ∃ τ τ1, f_M_begin 600 s = some τ ∧ τ1 = upS (upS (upS (upS (upS (upS (upS τ 111 34 0) 111 40 1) 111 35 0) 111 36 0) 111 37 (-1)) 111 38 0) 111 39 0 ∧ (∀ a k, (a = 111 → k < 2 ∨ 12 < k) → τ a k = gLay (σ 111 22) (upS s 111 0 0) a k) ∧ τ 111 2 = 0 ∧ (∀ q, τ1 113 q = gLay (σ 111 22) (upS σ 111 0 0) 113 q) ∧
        ((∃ σ' τ', f_Judge_read_30 1000000 σ3 = some (1, σ') ∧ f_M_evening_63 1000000 τ1 = evEnd τ' ∧ EvF (gLay (σ 111 22) (upS σ 111 0 0)) σ3 τ1 σ' τ') ∨
         (∃ σ' τ', f_Judge_read_30 1000000 σ3 = some (0, σ') ∧ f_M_evening_63 1000000 τ1 = some (w32 ((-2) - (τ' 111 11)), τ') ∧ EvB σ3 τ1 σ' τ')) := by
      intro s hs
      obtain ⟨τ, b1, b2, b3, b4, b5⟩ := t6 s hs
      obtain ⟨τ1, hτ1⟩ : ∃ τ1, τ1 = upS (upS (upS (upS (upS (upS (upS τ 111 34 0) 111 40 1) 111 35 0) 111 36 0) 111 37 (-1)) 111 38 0) 111 39 0 := ⟨_, rfl⟩
      have f1 : ∀ a q, (a = 111 → q < 34) → τ1 a q = τ a q := fun a q z => by
        rw [hτ1]
        iterate 7 rw [upS_rd, if_neg (fun y => by
          have := z y.1
          omega)]
      have gg : ∀ a q, 111 < a → τ1 a q = gLay (σ 111 22) (upS σ 111 0 0) a q := fun a q z => by
        rw [f1 a q (by omega), b5 a q (by omega)]
        exact gLay_cg (by rw [upS_ne (by omega), upS_ne (by omega), hs a q (by omega) (by omega)])
      refine ⟨τ, τ1, b1, hτ1, b5, b4, fun q => gg 113 q (by decide), ?_⟩
      refine ev_loop (d := σ 112) (n := m) (c := c) hIG hX (fun q => gg 113 q (by decide)) (fun q => gg 117 q (by decide)) 640 1000000 1000000 0 0 σ3 τ1 (by decide) (by decide) (by decide) ⟨?_, ?_, ?_, KpX.rf, KpM.rf, ⟨0, 0, ?_, ?_, ?_, ?_, ?_, ?_, ?_, ?_, ?_, Nat.le_refl 0, ?_⟩, ?_, ?_, Nat.le_refl 0⟩
      · exact b2.cg (fun a k z1 z2 => σ3n a k (by omega)) (fun q z1 z2 => f1 111 q (fun _ => by omega)) (fun q => f1 112 q (fun z => absurd z (by decide)))
      · rw [σ3n 2 9 (by decide)]; exact t3
      · rw [f1 111 10 (fun _ => by decide)]; exact b3
      · rw [hσ3]; rfl
      · rw [hτ1]; rfl
      · rw [gc 16 0 (by decide)]; exact hw
      · rw [hσ3, hτ1]; rfl
      · rw [hσ3, hτ1]; rfl
      · rw [hσ3]; exact fun _ => rfl
      · rw [hσ3, hτ1]; rfl
      · rw [hσ3]; rfl
      · rw [hτ1]; rfl
      · rw [hτ1]; rfl
      · rw [hσ3]; rfl
      · rw [hτ1]; rfl
    have mev : ∀ (s1 τ τ1 : xSt), 0 < s1 113 41 → f_M_begin 600 (upS s1 111 0 0) = some τ → τ1 = upS (upS (upS (upS (upS (upS (upS τ 111 34 0) 111 40 1) 111 35 0) 111 36 0) 111 37 (-1)) 111 38 0) 111 39 0 → f_M_evening s1 = f_M_evening_63 1000000 τ1 := fun s1 τ τ1 z1 z2 z3 => by
      unfold f_M_evening f_M_hasWay
      rw [xlet_s, upS_ne (by decide), if_pos z1, xbR_s, if_neg (by decide), z2, xbR_s, xlet_s, xlet_s, xlet_s, xlet_s, xlet_s, xlet_s, xlet_s, z3]
    have τ1f : ∀ (τ τ1 : xSt), τ1 = upS (upS (upS (upS (upS (upS (upS τ 111 34 0) 111 40 1) 111 35 0) 111 36 0) 111 37 (-1)) 111 38 0) 111 39 0 → ∀ a q, ¬ evV a q → τ1 a q = τ a q := fun τ τ1 hτ1 a q z => by
      rw [hτ1]
      iterate 7 rw [upS_rd, if_neg (fun y => z ⟨y.1, by omega, by omega⟩)]
    rcases lock σ (fun _ _ _ _ => rfl) with ⟨τa, τb, _, _, _, _, w0, ⟨σ', τ'', a1, _, ⟨l, J⟩, h9, h10, kX, kM⟩ | ⟨σ', τ'', a1, _, _⟩⟩
    · have FJ : Fr s_Judge_read σ2 σ' := fr_Judge_read (xr.trans a1)
      obtain ⟨v, v1, -⟩ := evEnd_ok hIG (fun q => (kM 113 q (fun z => by omega) (fun y => by unfold evV at y; omega)).trans (w0 q)) J
      have e7 : ∀ a q, 7 ≤ a → a ≤ 21 → (upS σ' 0 3 (σ' 2 9)) a q = gLay (σ 111 22) (upS σ 111 0 0) a q := fun a q z1 z2 => by
        rw [upS_ne (by omega), kX a q (by omega) (fun y => by unfold evW at y; omega), hX a q z1 z2]
      have kp := keep_ok (σ := upS σ' 0 3 (σ' 2 9)) (v := v) e7 (by rw [upS_ne (by decide)]; exact v1)
      obtain ⟨s1, hs1⟩ : ∃ s1, s1 = upS (upS (upS (upS (upS (upS σ' 0 3 (σ' 2 9)) 96 6 1) 97 0 ((upS σ' 0 3 (σ' 2 9)) 96 3)) 97 1 ((upS σ' 0 3 (σ' 2 9)) 96 4)) 97 2 ((upS σ' 0 3 (σ' 2 9)) 96 5)) 97 3 v := ⟨_, rfl⟩
      rw [← hs1] at kp
      have hXe : f_X_evening σ = some (s1 96 2, s1) := by
        unfold f_X_evening
        rw [hT, xbW_s, xw, xbR_s, if_neg (by decide), t2, xbR_s, xr, a1, xbW_s, xlet_s, if_neg (by decide), kp, xbR_s]
      have FX : Fr s_X_evening σ s1 := fr_X_evening hXe
      have s1n : ∀ a k, a ≠ 97 → (a = 96 → k ≠ 6) → (a = 0 → k ≠ 3) → s1 a k = σ' a k := fun a k z1 z2 z3 => by
        rw [hs1, upS_ne z1, upS_ne z1, upS_ne z1, upS_ne z1, upS_rd, if_neg (fun y => z2 y.1 y.2), upS_rd, if_neg (fun y => z3 y.1 y.2)]
      have s03 : s1 0 3 = 0 := by rw [hs1, upS_ne (by decide), upS_ne (by decide), upS_ne (by decide), upS_ne (by decide), upS_ne (by decide), upS_eq, h9]
      have s01 : s1 0 1 = 0 := by rw [s1n 0 1 (by decide) (by decide) (fun _ => by decide), FJ 0 1 rfl, t5 0 1 (by decide), upS_eq]
      have sM : ∀ a k, 111 ≤ a → s1 a k = σ a k := fun a k z => FX a k (inS_lo rfl z)
      have s41 : 0 < s1 113 41 := by rw [sM 113 41 (by decide), ← n1]; exact hw
      obtain ⟨τ, τ1, b1, b2, b3, b4, b5, ⟨ρ, τ', c1, c2, ⟨l2, J2⟩, c9, c10, cX, cM⟩ | ⟨ρ, -, c1, -, -⟩⟩ := lock (upS s1 111 0 0) (fun a k z1 z2 => by
        rw [upS_rd, if_neg (fun y => z2 y.1 y.2), sM a k z1])
      · rw [a1] at c1
        obtain rfl : σ' = ρ := (Prod.mk.inj (Option.some.inj c1)).2
        obtain ⟨v', v1', v2'⟩ := evEnd_ok hIG (fun q => (cM 113 q (fun z => by omega) (fun y => by unfold evV at y; omega)).trans (b5 q)) J2
        obtain rfl : v = v' := Option.some.inj ((v1 _ e7).symm.trans (v1' _ e7))
        obtain ⟨k, r, j1, j2, j3, j4, j5, j6, j7, j8, j9, j10, j11⟩ := J2
        obtain ⟨M, hMM⟩ : ∃ M, M = upS (upS (upS (upS τ' 124 0 (τ' 111 36)) 124 1 (τ' 111 38)) 124 2 (τ' 111 39)) 124 3 v := ⟨_, rfl⟩
        have Mn : ∀ a q, a ≠ 124 → M a q = τ' a q := fun a q z => by
          rw [hMM, upS_ne z, upS_ne z, upS_ne z, upS_ne z]
        have Mg : ∀ a k, a ≠ 124 → (a = 111 → k < 2 ∨ 13 < k) → ¬ evV a k → M a k = gLay (σ 111 22) (upS (upS s1 111 0 0) 111 0 0) a k := fun a k z1 z2 z3 => by
          rw [Mn a k z1, cM a k (fun y => by have := z2 y; omega) z3, τ1f τ τ1 b2 a k z3, b3 a k (fun y => by have := z2 y; omega)]
        have Ms : ∀ a k, a ≤ 110 → M a k = s1 a k := fun a k z => by
          rw [Mg a k (by omega) (fun y => by omega) (fun y => by unfold evV at y; omega), gLay_k (fun y => by omega) (fun y => by omega), upS_ne (by omega), upS_ne (by omega)]
        have fin := ev_fin (M := M) h FX s01 Mg (by
          rw [Mn 111 2 (by decide), cM 111 2 (fun _ => by decide) (fun y => by unfold evV at y; omega), τ1f τ τ1 b2 111 2 (fun y => by unfold evV at y; omega), b4]) (by
          rw [Ms 0 3 (by decide), s03, Mn 111 10 (by decide), c10]) (Or.inr ⟨by
            rw [Ms 96 6 (by decide), hs1, upS_ne (by decide), upS_ne (by decide), upS_ne (by decide), upS_ne (by decide), upS_eq], fun q hq => by
            rw [Ms 97 q (by decide)]
            rcases (show q = 0 ∨ q = 1 ∨ q = 2 ∨ q = 3 by omega) with rfl | rfl | rfl | rfl
            · rw [hs1, hMM, upS_nk (by decide), upS_nk (by decide), upS_nk (by decide), upS_eq, upS_ne (by decide), upS_nk (by decide), upS_nk (by decide), upS_nk (by decide), upS_eq]
              exact j5
            · rw [hs1, hMM, upS_nk (by decide), upS_nk (by decide), upS_eq, upS_ne (by decide), upS_nk (by decide), upS_nk (by decide), upS_eq]
              exact j7
            · rw [hs1, hMM, upS_nk (by decide), upS_eq, upS_ne (by decide), upS_nk (by decide), upS_eq]
              exact j8.trans j9.symm
            · rw [hs1, hMM, upS_eq, upS_eq]⟩)
        refine ⟨s1 96 2, s1, M, hXe, ?_, fin.1, fin.2⟩
        rw [mev s1 τ τ1 s41 b1 b2, c2, v2', ← hMM, s1n 96 2 (by decide) (fun _ => by decide) (by decide), j4]
      · rw [a1] at c1
        cases c1
    · have FJ : Fr s_Judge_read σ2 σ' := fr_Judge_read (xr.trans a1)
      obtain ⟨s1, hs1⟩ : ∃ s1, s1 = upS σ' 0 3 (σ' 2 9) := ⟨_, rfl⟩
      have hXe : f_X_evening σ = some (w32 ((-2) - (s1 2 10)), s1) := by
        unfold f_X_evening
        rw [hT, xbW_s, xw, xbR_s, if_neg (by decide), t2, xbR_s, xr, a1, xbW_s, xlet_s, if_pos rfl, hs1]
      have FX : Fr s_X_evening σ s1 := fr_X_evening hXe
      have s1n : ∀ a k, (a = 0 → k ≠ 3) → s1 a k = σ' a k := fun a k z3 => by
        rw [hs1, upS_rd, if_neg (fun y => z3 y.1 y.2)]
      have s01 : s1 0 1 = 0 := by rw [s1n 0 1 (fun _ => by decide), FJ 0 1 rfl, t5 0 1 (by decide), upS_eq]
      have sM : ∀ a k, 111 ≤ a → s1 a k = σ a k := fun a k z => FX a k (inS_lo rfl z)
      have s41 : 0 < s1 113 41 := by rw [sM 113 41 (by decide), ← n1]; exact hw
      obtain ⟨τ, τ1, b1, b2, b3, b4, b5, ⟨ρ, -, c1, -, -⟩ | ⟨ρ, M, c1, c2, ⟨c3, c4⟩, cX, cM⟩⟩ := lock (upS s1 111 0 0) (fun a k z1 z2 => by
        rw [upS_rd, if_neg (fun y => z2 y.1 y.2), sM a k z1])
      · rw [a1] at c1
        cases c1
      · rw [a1] at c1
        obtain rfl : σ' = ρ := (Prod.mk.inj (Option.some.inj c1)).2
        have Mg : ∀ a k, (a = 111 → k < 2 ∨ 13 < k) → ¬ evV a k → M a k = gLay (σ 111 22) (upS (upS s1 111 0 0) 111 0 0) a k := fun a k z2 z3 => by
          rw [cM a k (fun y => by have := z2 y; omega) z3, τ1f τ τ1 b2 a k z3, b3 a k (fun y => by have := z2 y; omega)]
        have Ms : ∀ a k, a ≤ 110 → M a k = s1 a k := fun a k z => by
          rw [Mg a k (fun y => by omega) (fun y => by unfold evV at y; omega), gLay_k (fun y => by omega) (fun y => by omega), upS_ne (by omega), upS_ne (by omega)]
        have e96 : M 96 6 = σ 96 6 := by
          rw [Ms 96 6 (by decide), s1n 96 6 (by decide), FJ 96 6 rfl, t5 96 6 (by decide), upS_ne (by decide)]
        have e97 : ∀ q, M 97 q = σ 97 q := fun q => by
          rw [Ms 97 q (by decide), s1n 97 q (fun y => by omega), FJ 97 q rfl, t5 97 q (by decide), upS_ne (by decide)]
        have e124 : ∀ q, M 124 q = σ 124 q := fun q => by
          rw [Mg 124 q (fun y => by omega) (fun y => by unfold evV at y; omega), gLay_k (fun y => by omega) (fun y => by omega), upS_ne (by omega), upS_ne (by omega), sM 124 q (by decide)]
        have fin := ev_fin (M := M) h FX s01 (fun a k _ z2 z3 => Mg a k z2 z3) (by
          rw [cM 111 2 (fun _ => by decide) (fun y => by unfold evV at y; omega), τ1f τ τ1 b2 111 2 (fun y => by unfold evV at y; omega), b4]) (by
          rw [Ms 0 3 (by decide), hs1, upS_eq, c3]) (by
            rw [e96]
            simp only [e97, e124]
            exact h.2.2.2.2.2.1.2.2.2.1)
        refine ⟨w32 ((-2) - (s1 2 10)), s1, M, hXe, ?_, fin.1, fin.2⟩
        rw [mev s1 τ τ1 s41 b1 b2, c2, s1n 2 10 (by decide), c4]
  · have xw : f_Way_isTold (upS σ 0 1 0) = some 0 := by
      unfold f_Way_isTold
      rw [upS_ne (by decide), if_neg hw]
    have hXe : f_X_evening σ = some (-1000, upS σ 0 1 0) := by
      unfold f_X_evening
      rw [hT, xbW_s, xw, xbR_s, if_pos rfl]
    have hMe : f_M_evening (upS σ 0 1 0) = some (-1000, upS (upS (upS σ 0 1 0) 111 0 0) 111 2 0) := by
      unfold f_M_evening f_M_hasWay
      rw [xlet_s, upS_ne (by decide), upS_ne (by decide), ← n1, if_neg hw, xbR_s, if_pos rfl]
      unfold f_M_gather
      rw [xlet_s, xlet_s, xbW_s]
    obtain ⟨M, hMM⟩ : ∃ M, M = upS (upS (upS σ 0 1 0) 111 0 0) 111 2 0 := ⟨_, rfl⟩
    have F : Fr [(0, [1]), (111, [0, 2])] σ M := Fr.up (Fr.up (Fr.up Fr.rf rfl rfl) rfl rfl) hMM rfl
    rw [← hMM] at hMe
    exact ⟨-1000, _, M, hXe, hMe, inv_p h F rfl (by rw [hMM]; rfl) (by rw [hMM]; rfl) (h.2.2.2.2.2.1.ag (F.ag rfl)), F 0 7 rfl⟩
