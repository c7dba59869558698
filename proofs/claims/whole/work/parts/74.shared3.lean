/-! shared: the call -/
def gLay (b : Int) (s : xSt) : xSt := if b = 0 then upS (upS s 111 22 1) 113 2 (-1) else s
theorem gLay_f {s : xSt} {b : Int} (h : s 111 22 = b) : f_M_lay s = some (gLay b s) := by
  unfold f_M_lay gLay
  rw [h]
  by_cases hb : b = 0
  · rw [if_pos hb, if_pos hb, xlet_s, xlet_s]
  · rw [if_neg hb, if_neg hb]
theorem gLay_k {s : xSt} {b : Int} {a k : Nat} (h1 : a = 111 → k ≠ 22) (h2 : a = 113 → k ≠ 2) : gLay b s a k = s a k := by
  unfold gLay
  split
  · rw [upS_rd, if_neg (fun z => h2 z.1 z.2), upS_rd, if_neg (fun z => h1 z.1 z.2)]
  · rfl
theorem gLay_fr {S : xZ} {s t : xSt} {b : Int} (h : Fr S s t) : Fr S (gLay b s) (gLay b t) := by
  intro a k hk
  have h1 := h a k hk
  unfold gLay
  split
  · rw [upS_rd, upS_rd, upS_rd, upS_rd, h1]
  · exact h1
def S_ts : xZ := [(0, [3, 7, 17, 18]), (96, [6]), (97, []), (99, [1]), (100, []), (110, []), (111, [10, 23, 43, 45, 66, 69]), (124, []), (127, []), (136, [])]
theorem told_sh {σ σ' : xSt} (hp : C_told σ) (ha : Ag S_ts σ σ') (h1 : σ' 102 1 = σ' 111 48) : C_told σ' := by
  obtain ⟨t1, t2, t3, t4, t5, -, t7, t8⟩ := hp
  unfold C_told
  rw [ha 0 3 rfl, ha 111 10 rfl, ha 0 7 rfl, ha 111 23 rfl, ha 96 6 rfl, ha 0 18 rfl, ha 111 69 rfl, ha 0 17 rfl, ha 111 66 rfl, ha 111 45 rfl, ha 111 43 rfl, ha 99 1 rfl]
  simp only [fun k => ha 124 k rfl, fun k => ha 97 k rfl, fun k => ha 110 k rfl, fun k => ha 136 k rfl, fun k => ha 100 k rfl, fun k => ha 127 k rfl]
  exact ⟨t1, t2, t3, t4, t5, h1, t7, t8⟩
def s_sh : xZ := [(0, [1]), (98, []), (102, [1]), (103, []), (111, [0, 2, 44, 48]), (125, []), (128, [])]
theorem Inv0.shares {σ : xSt} (h : Inv0 σ) : ∃ E : Nat, E ≤ 6 ∧ σ 7 2 = (E : Int) ∧ σ 113 1 = (E : Int) ∧ ∀ e : Nat, e < E → (0 ≤ σ 14 e ∧ σ 14 e ≤ σ 15 e ∧ σ 15 e ≤ 20) ∧ σ 113 (28 + 2 * e) = σ 14 e ∧ σ 113 (29 + 2 * e) = σ 15 e := by
  obtain ⟨h1, h2, h3⟩ := h.ends
  obtain ⟨-, -, -, -, -, -, -, -, -, -, -, -, -, he⟩ := h.2.1.1
  refine ⟨(σ 7 2).toNat, by omega, by omega, by omega, fun e hlt => ?_⟩
  obtain ⟨e1, e2, e3, e4, e5, -⟩ := he e (by omega)
  have e1 : σ 14 e = σ 113 (28 + 2 * e) := e1
  have e2 : σ 15 e = σ 113 (29 + 2 * e) := e2
  exact ⟨⟨e3, e4, e5⟩, e1.symm, e2.symm⟩
theorem sh_keep {σ τ : xSt} (h : ∀ a q, a ≠ 128 → (a = 111 → q ≠ 48) → τ a q = σ a q) : Fr s_sh σ τ := by
  intro a k hk
  refine h a k (fun z => ?_) (fun z z2 => ?_)
  · subst z
    have : inS s_sh 128 k = true := rfl
    rw [this] at hk
    cases hk
  · subst z
    subst z2
    cases hk
theorem sim_shared {n : Nat} : SimW (InvN (n + 1)) (InvN n) f_X_shared f_M_shared := by
  refine simW0 (fun σ h => ?_)
  obtain ⟨σL, hl, -, hI, -, -⟩ := lay_ok h
  obtain rfl : gLay (σ 111 22) σ = σL := Option.some.inj ((gLay_f rfl).symm.trans hl)
  obtain ⟨v, σx, a1, a2, a3, a4⟩ := row_ok (σ := σ) (lo := 0) (hi := 600) h.1 (by decide) (by decide)
  have F1 := fr_X_takeRow a1
  have g7 : gLay (σ 111 22) σ 0 7 = σ 0 7 := gLay_k (fun z => absurd z (by decide)) (fun z => absurd z (by decide))
  have fin : ∀ σF : xSt, Fr s_sh (gLay (σ 111 22) σ) σF → σF 0 1 = 0 → σF 111 2 = 0 → σF 102 1 = σF 111 48 → Inv0 σF ∧ σF 0 7 = σ 0 7 := by
    intro σF F h01 h2 ht
    obtain ⟨p1, p2, p3, p4, p5, p6, p7, p8⟩ := hI
    exact ⟨⟨tape0 h01 h2, p2.ag (F.ag rfl), p3.ag (F.ag rfl), p4.ag (F.ag rfl), p5.ag (F.ag rfl), told_sh p6 (F.ag rfl) ht, p7.ag (F.ag rfl), p8.ag (F.ag rfl)⟩, (F 0 7 rfl).trans g7⟩
  have told0 : gLay (σ 111 22) σ 102 1 = gLay (σ 111 22) σ 111 48 := hI.2.2.2.2.2.1.2.2.2.2.2.1
  -- the model's start behind the class's end s
  have start : ∀ s : xSt, Fr [(0, [1]), (98, []), (102, [1]), (103, [])] σ s → ∃ σm, f_M_lay (upS s 111 0 0) = some (gLay (σ 111 22) (upS s 111 0 0)) ∧ f_M_takeRow 0 600 (gLay (σ 111 22) (upS s 111 0 0)) = some (v, σm) ∧ σm 111 2 = 0 ∧ (∀ k : Nat, (k : Int) < v → σm 125 k = σx 98 k) ∧ Fr s_sh (gLay (σ 111 22) σ) σm ∧ σm 0 1 = s 0 1 ∧ σm 102 1 = s 102 1 ∧ σm 111 48 = gLay (σ 111 22) σ 111 48 := by
    intro s F
    have e22 : (upS s 111 0 0) 111 22 = σ 111 22 := F 111 22 rfl
    have e2 : gLay (σ 111 22) (upS s 111 0 0) 111 2 = σ 111 2 := (gLay_k (fun _ => by decide) (fun z => absurd z (by decide))).trans (F 111 2 rfl)
    have e112 : ∀ k, gLay (σ 111 22) (upS s 111 0 0) 112 k = σ 112 k := fun k => (gLay_k (fun z => absurd z (by decide)) (fun z => absurd z (by decide))).trans (F 112 k rfl)
    obtain ⟨σm, b1, b2, -, b3⟩ := a4 _ e2 e112
    have F2 := fr_M_takeRow b1
    refine ⟨σm, gLay_f e22, b1, b2, b3, ?_, ?_, ?_, ?_⟩
    · exact Fr.call (gLay_fr (Fr.up (Fr.mono F rfl) rfl rfl)) F2 rfl
    · exact (F2 0 1 rfl).trans (gLay_k (fun z => absurd z (by decide)) (fun z => absurd z (by decide)))
    · exact (F2 102 1 rfl).trans (gLay_k (fun z => absurd z (by decide)) (fun z => absurd z (by decide)))
    · exact ((F2 111 48 rfl).trans (gLay_k (fun _ => by decide) (fun z => absurd z (by decide)))).trans ((F 111 48 rfl).trans (gLay_k (fun _ => by decide) (fun z => absurd z (by decide))).symm)
  have Fx : Fr [(0, [1]), (98, []), (102, [1]), (103, [])] σ σx := Fr.mono F1 rfl
  have t48 : ∀ σm, Fr s_sh (gLay (σ 111 22) σ) σm → True := fun _ _ => trivial
  have k102 : σx 102 1 = gLay (σ 111 22) σ 111 48 := by
    rw [← told0]
    exact (F1 102 1 rfl).trans (gLay_k (fun z => absurd z (by decide)) (fun z => absurd z (by decide))).symm
  by_cases hv : v = -1
  · obtain ⟨σm, b0, b1, b2, b3, b4, b5, b6, b48⟩ := start σx Fx
    obtain ⟨i1, i2⟩ := fin σm b4 (b5.trans a2) b2 (by rw [b6, b48, k102])
    refine ⟨-2, σx, σm, ?_, ?_, i1, i2⟩
    · unfold f_X_shared
      rw [a1, xbW_s, if_pos hv]
    · unfold f_M_shared
      rw [xlet_s, b0, xbR_s, b1, xbW_s, if_pos hv]
  · obtain ⟨v0, v1, v2⟩ := a3.resolve_left hv
    obtain ⟨L, rfl⟩ : ∃ L : Nat, v = (L : Int) := ⟨v.toNat, by omega⟩
    have hL : L ≤ 600 := by omega
    obtain ⟨E, h6, hE, mE, hs⟩ := hI.shares
    have q7 : ∀ a k, a = 7 ∨ a = 14 ∨ a = 15 → σx a k = gLay (σ 111 22) σ a k := by
      intro a k ha
      rcases ha with ha | ha | ha
      · subst ha
        exact (F1 7 k rfl).trans (gLay_k (fun z => absurd z (by decide)) (fun z => absurd z (by decide))).symm
      · subst ha
        exact (F1 14 k rfl).trans (gLay_k (fun z => absurd z (by decide)) (fun z => absurd z (by decide))).symm
      · subst ha
        exact (F1 15 k rfl).trans (gLay_k (fun z => absurd z (by decide)) (fun z => absurd z (by decide))).symm
    generalize hG : gLay (σ 111 22) σ = G at *
    have lock : ∀ σm : xSt, Fr s_sh G σm → ∃ w, f_Shares_areTold σx = some w ∧ f_M_hasShares σm = some w ∧ (w = 0 ∨ w = 1 ∧ 0 < E ∧ 0 < G 15 0 ∧ TdP (G 14) (G 15) E (G 15 0)) := fun σm F =>
      told_lock h6 (fun e he => (hs e he).1) ((q7 7 2 (Or.inl rfl)).trans hE) (fun e _ => q7 14 e (Or.inr (Or.inl rfl))) (fun e _ => q7 15 e (Or.inr (Or.inr rfl))) ((F 113 1 rfl).trans mE) (fun e he => (F 113 _ rfl).trans (hs e he).2.1) (fun e he => (F 113 _ rfl).trans (hs e he).2.2)
    obtain ⟨w, w1, -, w3⟩ := lock G Fr.rf
    have lock2 : ∀ σm : xSt, Fr s_sh G σm → f_M_hasShares σm = some w := by
      intro σm F
      obtain ⟨w', u1, u2, -⟩ := lock σm F
      rw [w1] at u1
      rw [u2, Option.some.inj u1]
    rcases w3 with w3 | ⟨w3, hE0, hB, -⟩
    · obtain ⟨σm, b0, b1, b2, b3, b4, b5, b6, b48⟩ := start σx Fx
      obtain ⟨i1, i2⟩ := fin σm b4 (b5.trans a2) b2 (by rw [b6, b48, k102])
      refine ⟨-2, σx, σm, ?_, ?_, i1, i2⟩
      · unfold f_X_shared
        rw [a1, xbW_s, if_neg hv, w1, xbR_s, if_pos w3]
      · unfold f_M_shared
        rw [xlet_s, b0, xbR_s, b1, xbW_s, if_neg hv, lock2 σm b4, xbR_s, if_pos w3]
    · have w0 : ¬ w = 0 := by omega
      have eB : f_Table_shareBelow 0 σx = some (G 15 0) := by
        have k := x_below (e := 0) ((q7 7 2 (Or.inl rfl)).trans hE) h6 hE0
        rw [c0n, q7 15 0 (Or.inr (Or.inr rfl))] at k
        exact k
      have out := x_out10 (E := E) (L := L) (B := G 15 0) (fa := G 14) h6 E 1000000 0 σx (by omega) (by omega) ((q7 7 2 (Or.inl rfl)).trans hE) (fun i _ => q7 14 i (Or.inr (Or.inl rfl))) (fun i hi => absurd hi (Nat.not_lt_zero _))
      rw [c0n] at out
      have mall : ∀ σm : xSt, Fr s_sh G σm → (∃ e0 : Nat, e0 < E ∧ G 14 e0 = G 15 0 ∧ (∀ i : Nat, i < e0 → G 14 i ≠ G 15 0) ∧ f_M_all σm = some (e0 : Int)) ∨ ((∀ i : Nat, i < E → G 14 i ≠ G 15 0) ∧ f_M_all σm = some (-1)) := by
        intro σm F
        exact m_all2 (E := E) (B := G 15 0) (fa := G 14) h6 ((F 113 1 rfl).trans mE) ((F 113 29 rfl).trans (hs 0 hE0).2.2) (fun e he => (F 113 _ rfl).trans (hs e he).2.1) E 1000000 0 (by omega) (by omega) (fun i hi => absurd hi (Nat.not_lt_zero _))
      rcases out with ⟨e0, o1, o2, o3, s1, o4, o5, o6⟩ | ⟨o1, s1, o4, o5, o6⟩
      · have hX : f_X_shared σ = some ((e0 : Int), s1) := by
          unfold f_X_shared f_Shares_shareOut
          rw [a1, xbW_s, if_neg hv, w1, xbR_s, if_neg w0, eB, xbR_s, o4, xbW_s]
        obtain ⟨σm, b0, b1, b2, b3, b4, b5, b6, b48⟩ := start s1 (fr_X_shared hX)
        have hk : Fr s_sh G (upS σm 111 48 0) := Fr.up b4 rfl rfl
        obtain ⟨i1, i2⟩ := fin (upS σm 111 48 0) hk (b5.trans ((o6 0 1 (by decide) (by decide)).trans a2)) b2 (b6.trans o5)
        refine ⟨(e0 : Int), s1, upS σm 111 48 0, hX, ?_, i1, i2⟩
        rcases mall σm b4 with ⟨e1, m1, m2, m3, m4⟩ | ⟨m1, -⟩
        · have he : e1 = e0 := by
            rcases Nat.lt_trichotomy e1 e0 with hh | hh | hh
            · exact absurd m2 (o3 e1 hh)
            · exact hh
            · exact absurd o2 (m3 e0 hh)
          unfold f_M_shared
          rw [xlet_s, b0, xbR_s, b1, xbW_s, if_neg hv, lock2 σm b4, xbR_s, if_neg w0, m4, xbR_s, if_neg (by omega), xlet_s, he]
        · exact absurd o2 (m1 e0 o1)
      · have s72 : s1 7 2 = (E : Int) := (o6 7 2 (by decide)).trans ((q7 7 2 (Or.inl rfl)).trans hE)
        obtain ⟨u, t1, t2, d1, d2, d3, d4, d5⟩ := out_lock (E := E) (L := L) (B := G 15 0) h6 hL L 1000000 1000000 0 0 s1 (fun a k => if a = 113 then (if k = 1 then (E : Int) else G 15 0) else if a = 128 then s1 103 k else if a = 125 then s1 98 k else s1 102 1) (by omega) (by omega) (by omega) ⟨s72, rfl, rfl, fun _ _ => rfl⟩ (fun _ _ => rfl) rfl
        have hX : f_X_shared σ = some (u, t1) := by
          unfold f_X_shared f_Shares_shareOut
          rw [c0n] at d1
          rw [a1, xbW_s, if_neg hv, w1, xbR_s, if_neg w0, eB, xbR_s, o4, d1, xbW_s]
        obtain ⟨σm, b0, b1, b2, b3, b4, b5, b6, b48⟩ := start t1 (fr_X_shared hX)
        obtain ⟨τ, r1, r2, r3⟩ := m_out52 (E := E) (L := L) (fa := G 14) h6 E 1000000 0 σm (by omega) (by omega) ((b4 113 1 rfl).trans mE) (fun e he => (b4 113 _ rfl).trans (hs e he).2.1) (fun i hi => absurd hi (Nat.not_lt_zero _))
        have t113 : ∀ k, τ 113 k = G 113 k := fun k => (r3 113 k (by decide)).trans (b4 113 k rfl)
        obtain ⟨u', t1', σF, c1, c2, c3, c4, c5⟩ := out_lock (E := E) (L := L) (B := G 15 0) h6 hL L 1000000 1000000 0 0 s1 τ (by omega) (by omega) (by omega) ⟨s72, (t113 1).trans mE, (t113 29).trans (hs 0 hE0).2.2, fun e he => by rw [o5 e he, r2 e he]⟩ (fun k hk => by rw [r3 125 k (by decide), b3 k (by omega), o6 98 k (by decide)]) (by rw [r3 111 48 (by decide), b48, o6 102 1 (by decide), k102])
        rw [d1] at c1
        have cc := Option.some.inj c1
        obtain ⟨cu, ct⟩ := Prod.mk.inj cc
        subst cu
        subst ct
        have hk : Fr s_sh G σF := Fr.call (Fr.call b4 (sh_keep (fun a q u1 _ => r3 a q u1)) (subL_rf _)) (sh_keep c5) (subL_rf _)
        obtain ⟨i1, i2⟩ := fin σF hk (by rw [c5 0 1 (by decide) (fun z => absurd z (by decide)), r3 0 1 (by decide), b5, d4 0 1 (by decide) (by decide), o6 0 1 (by decide), a2]) (by rw [c5 111 2 (by decide) (fun _ => by decide), r3 111 2 (by decide), b2]) (by rw [c5 102 1 (by decide) (fun z => absurd z (by decide)), r3 102 1 (by decide), b6]; exact c3)
        refine ⟨u, t1, σF, hX, ?_, i1, i2⟩
        rcases mall σm b4 with ⟨e1, m1, m2, -, -⟩ | ⟨-, m4⟩
        · exact absurd m2 (o1 e1 m1)
        · unfold f_M_shared
          rw [c0n] at r1 c2
          rw [xlet_s, b0, xbR_s, b1, xbW_s, if_neg hv, lock2 σm b4, xbR_s, if_neg w0, m4, xbR_s, if_pos rfl, r1, c2]
