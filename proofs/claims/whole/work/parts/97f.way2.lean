/-! WAYS read in lock-step: NODES and their sides -/
def WyN (σ0 τ0 : xSt) (d : Nat → Int) (n c D dp N : Nat) (fr : Int) (sd q : Nat) (σ τ σ' τ' : xSt) : Prop := ∃ i' N' m q' : Nat, WyR σ0 τ0 d n c i' N' σ' τ' ∧ GrX 36 N N' fr sd σ σ' ∧ GrM N N' τ τ' ∧ τ' 111 26 = (N : Int) ∧ (∀ k, N ≤ k → k < N' → NdX σ' τ' 7 36 k) ∧ Sub σ' 7 36 D N N' m ∧ σ' 36 1 = (q' : Int) ∧ Mxq q (dp + m) q'
section
variable {G σ0 τ0 : xSt} {d : Nat → Int} {n c : Nat}
def NodeL (σ0 τ0 : xSt) (d : Nat → Int) (n c D dp : Nat) : Prop := ∀ (F F2 i N q sd : Nat) (fr : Int) (σ τ : xSt), 2 * D + 1 ≤ F → 2 * D + 1 ≤ F2 → WyR σ0 τ0 d n c i N σ τ → N ≤ 80 → fr < (N : Int) → sd < 6 → σ 36 1 = (q : Int) → dp ≤ q →
  (∃ σ' τ', (g_Way_readNode F).1 (dp : Int) fr (sd : Int) σ = some (1, σ') ∧ (g_M_readNode F2).1 (dp : Int) τ = some (1, τ') ∧ WyN σ0 τ0 d n c D dp N fr sd q σ τ σ' τ') ∨
  (∃ σ' τ', (g_Way_readNode F).1 (dp : Int) fr (sd : Int) σ = some (0, σ') ∧ (g_M_readNode F2).1 (dp : Int) τ = some (0, τ') ∧ WyB σ0 τ0 σ' τ')
theorem sides_lock (hG : Inv0 G) (hX : ∀ a q, 7 ≤ a → a ≤ 15 → σ0 a q = G a q) {D dp k t Ns q sd0 : Nat} {fr : Int} {σs τs : xSt} (hI : NodeL σ0 τ0 d n c D (dp + 1)) (hN6 : Ns ≤ 6) (hk : k < 80) (hfr : fr < (k : Int)) (hsd0 : sd0 < 6) (hdp : dp + 1 ≤ 10) {F F2 : Nat} (hF : 2 * D + 1 ≤ F) (hF2 : 2 * D + 1 ≤ F2) :
    ∀ (j fu fu2 s i Nc H qc : Nat) (σ τ : xSt), s + j = Ns → j < fu → j < fu2 → WyR σ0 τ0 d n c i Nc σ τ → k < Nc → Nc ≤ 80 → σ 36 1 = (qc : Int) → Mxq q (dp + 1 + H) qc → WyP σ τ D k t s Nc H → GrX 36 k Nc fr sd0 σs σ → GrM k Nc τs τ →
    (∃ (σ' τ' : xSt) (i' N' H' q' : Nat), f_Way_readSides_3 ((g_Way_readNode F).1) ((g_Way_readNode F).2) fu ((dp + 1 : Nat) : Int) (k : Int) (Ns : Int) (s : Int) σ = some (1, σ') ∧ f_M_readSides_14 ((g_M_readNode F2).1) ((g_M_readNode F2).2) fu2 (k : Int) (Ns : Int) ((dp + 1 : Nat) : Int) (s : Int) τ = some (1, τ') ∧ WyR σ0 τ0 d n c i' N' σ' τ' ∧ τ' 111 26 = (k : Int) ∧ σ' 36 1 = (q' : Int) ∧ Mxq q (dp + 1 + H') q' ∧ WyP σ' τ' D k t Ns N' H' ∧ GrX 36 k N' fr sd0 σs σ' ∧ GrM k N' τs τ') ∨
    (∃ σ' τ', f_Way_readSides_3 ((g_Way_readNode F).1) ((g_Way_readNode F).2) fu ((dp + 1 : Nat) : Int) (k : Int) (Ns : Int) (s : Int) σ = some (0, σ') ∧ f_M_readSides_14 ((g_M_readNode F2).1) ((g_M_readNode F2).2) fu2 (k : Int) (Ns : Int) ((dp + 1 : Nat) : Int) (s : Int) τ = some (0, τ') ∧ WyB σ0 τ0 σ' τ') := by
  intro j
  induction j with
  | zero =>
    intro fu fu2 s i Nc H qc σ τ g1 g2 g3 hR hkN hN80 hq hMx hP hGx hGm
    obtain ⟨fu, rfl⟩ : ∃ n2, fu = n2 + 1 := ⟨fu - 1, by omega⟩
    obtain ⟨fu2, rfl⟩ : ∃ n2, fu2 = n2 + 1 := ⟨fu2 - 1, by omega⟩
    obtain rfl : s = Ns := by omega
    obtain ⟨hL, h9, h10, kX, kM, hx, hm⟩ := hR
    obtain ⟨f1, hh, p1, p2, p3, p4, p5, p6, p7, p8, p9, p10⟩ := hP
    have e115 : ∀ q, (upS τ 111 26 (k : Int)) 115 q = τ 115 q := fun q => upS_ne (by decide)
    refine Or.inl ⟨σ, upS τ 111 26 (k : Int), i, Nc, H, qc, ?_, ?_, ⟨?_, h9, ?_, kX, ?_, hx, ?_⟩, upS_eq, hq, hMx, ⟨f1, hh, p1, p2, fun x hx => ?_, p4, p5, p6, ?_, ?_, fun x h1 h2 => ?_, fun x h1 h2 => ?_⟩, hGx, ⟨?_, fun q hq => ?_⟩⟩
    · rw [f_Way_readSides_3.eq_2, if_neg (Int.lt_irrefl _)]
    · rw [f_M_readSides_14.eq_2, if_neg (Int.lt_irrefl _), xlet_s]
    · exact hL.cg (fun _ _ _ _ => rfl) (fun q z1 z2 => upS_nk (by omega)) (fun q => upS_ne (by decide))
    · rw [upS_nk (by decide)]; exact h10
    · exact kM.st (fun a q z1 z2 => by rw [upS_rd, if_neg (fun y => z2 (Or.inr ⟨y.1, Or.inr y.2⟩))])
    · rw [upS_nk (by decide)]; exact hm
    · obtain ⟨a1, a2, a3, a4, a5, a6⟩ := p3 x hx
      exact ⟨a1, a2, a3, a4, (e115 _).trans a5, a6⟩
    · exact (e115 _).trans p7
    · exact (e115 _).trans p8
    · obtain ⟨a1, a2⟩ := p9 x h1 h2
      exact ⟨a1, (e115 _).trans a2⟩
    · exact (p10 x h1 h2).cg (fun _ _ _ _ => rfl) (fun q _ _ => e115 q)
    · rw [upS_nk (by decide)]; exact hGm.1
    · rw [e115]; exact hGm.2 q hq
  | succ j ih =>
    intro fu fu2 s i Nc H qc σ τ g1 g2 g3 hR hkN hN80 hq hMx hP hGx hGm
    obtain ⟨fu, rfl⟩ : ∃ n2, fu = n2 + 1 := ⟨fu - 1, by omega⟩
    obtain ⟨fu2, rfl⟩ : ∃ n2, fu2 = n2 + 1 := ⟨fu2 - 1, by omega⟩
    have hs6 : s < 6 := by omega
    have cb : 0 ≤ ((8 * k + 2 + s : Nat) : Int) ∧ ((8 * k + 2 + s : Nat) : Int) < 640 := by omega
    have s100 : s < 100000 := by omega
    have hlt : (s : Int) < (Ns : Int) := by omega
    have hqd : dp + 1 ≤ qc := by
      have := hMx.2.2
      omega
    have h36 : ∀ {σ : xSt}, KpX wyW σ0 σ → ∀ k : Nat, (k : Int) < σ 7 1 → σ 10 k ≤ 6 := fun kX x hx => by
      have e7 := (kX 7 1 (by decide) (by unfold wyW; omega)).trans (hX 7 1 (by decide) (by decide))
      have e10 := (kX 10 x (by decide) (by unfold wyW; omega)).trans (hX 10 x (by decide) (by decide))
      rw [e10]
      rw [e7] at hx
      exact hG.2.1.1.n3.2 x hx
    rcases hI F F2 i Nc qc s (k : Int) σ τ hF hF2 hR hN80 (by omega) hs6 hq hqd with ⟨σ1, τ1, a1, a2, i1, N1, m, q1, b1, b2, b3, b4, b5, b6, b7, b8⟩ | ⟨σ1, τ1, a1, a2, a3⟩
    · obtain ⟨hL1, h91, h101, kX1, kM1, hx1, hm1⟩ := b1
      have e715 : ∀ a q, 7 ≤ a → a ≤ 15 → σ1 a q = σ a q := fun a q z1 z2 => (kX1 a q (by omega) (by unfold wyW; omega)).trans (hR.2.2.2.1 a q (by omega) (by unfold wyW; omega)).symm
      obtain ⟨τ2, ht2⟩ : ∃ τ2, τ2 = upS τ1 115 (8 * k + 2 + s) (Nc : Int) := ⟨_, rfl⟩
      obtain ⟨H', hH1, hH2⟩ := hP.more (h36 hR.2.2.2.1) hs6 hkN b2 b3 e715 b5 b6 ht2
      have b2i := b2
      obtain ⟨-, gN1, gN2, -⟩ := b2i
      have hL2 : LR d n 600 c i1 σ1 τ2 := hL1.cg (fun _ _ _ _ => rfl) (fun q _ _ => by rw [ht2, upS_ne (by decide)]) (fun q => by rw [ht2, upS_ne (by decide)])
      have h102 : τ2 111 10 = 0 := by rw [ht2, upS_ne (by decide)]; exact h101
      have kM2 : KpM wyV τ0 τ2 := kM1.st (fun a q z1 z2 => by rw [ht2, upS_ne (fun y => z2 (Or.inl y))])
      have hm2 : τ2 111 25 = (N1 : Int) := by rw [ht2, upS_ne (by decide)]; exact hm1
      have hGx1 : GrX 36 k N1 fr sd0 σs σ1 := hGx.cat b2 (Nat.le_refl k) hfr hsd0
      have hGm2 : GrM k N1 τs τ2 := ⟨hm2, fun q hq => by rw [ht2, upS_nk (by omega), b3.2 q (by omega), hGm.2 q hq]⟩
      have hMx1 : Mxq q (dp + 1 + H') q1 := by
        unfold Mxq at hMx b8 hH1 ⊢
        omega
      have ew1 : w32 (8 * (k : Int)) = ((8 * k : Nat) : Int) := w32_8n (by omega)
      have ew2 : w32 (((8 * k : Nat) : Int) + 2) = ((8 * k + 2 : Nat) : Int) := w32_n2 (by omega)
      have ew3 : w32 (((8 * k + 2 : Nat) : Int) + (s : Int)) = ((8 * k + 2 + s : Nat) : Int) := w32_nn (by omega)
      obtain ⟨v, v0, v1, v2⟩ := hL2.hand.sign 58
      obtain ⟨u, u0, u1, u2⟩ := hL2.hand.sign 41
      obtain ⟨bl, hbl⟩ : ∃ bl : Int, bl = if (s : Int) = w32 ((Ns : Int) - 1) then 1 else 0 := ⟨_, rfl⟩
      have x3 : f_Way_readSides_3 ((g_Way_readNode F).1) ((g_Way_readNode F).2) (fu + 1) ((dp + 1 : Nat) : Int) (k : Int) (Ns : Int) (s : Int) σ = (if v = 0 then (if u = 0 then (xbW (f_Tokens_fail 1 σ1) fun r5 σ6 => some (xnb r5, σ6)) else (f_Way_readSides_50 ((g_Way_readNode F).1) ((g_Way_readNode F).2) (fun z0 z1 z2 z3 sz => f_Way_readSides_3 ((g_Way_readNode F).1) ((g_Way_readNode F).2) fu z0 z1 z2 z3 sz) ((dp + 1 : Nat) : Int) (k : Int) (Ns : Int) (s : Int) σ1)) else (f_Way_readSides_50 ((g_Way_readNode F).1) ((g_Way_readNode F).2) (fun z0 z1 z2 z3 sz => f_Way_readSides_3 ((g_Way_readNode F).1) ((g_Way_readNode F).2) fu z0 z1 z2 z3 sz) ((dp + 1 : Nat) : Int) (k : Int) (Ns : Int) (s : Int) σ1)) := by
        rw [f_Way_readSides_3.eq_2, if_pos hlt, a1, xbW_s, if_neg (by decide), v1, xbR_s, u1, xbR_s]
      have x50 : f_Way_readSides_50 ((g_Way_readNode F).1) ((g_Way_readNode F).2) (fun z0 z1 z2 z3 sz => f_Way_readSides_3 ((g_Way_readNode F).1) ((g_Way_readNode F).2) fu z0 z1 z2 z3 sz) ((dp + 1 : Nat) : Int) (k : Int) (Ns : Int) (s : Int) σ1 = (if v = bl then (xbW (f_Tokens_fail 5 σ1) fun r8 σ9 => some (xnb r8, σ9)) else (xbR (f_Tokens_step σ1) fun σ10 => xlet (w32 ((s : Int) + 1)) fun x11 => f_Way_readSides_3 ((g_Way_readNode F).1) ((g_Way_readNode F).2) fu ((dp + 1 : Nat) : Int) (k : Int) (Ns : Int) x11 σ10)) := by
        unfold f_Way_readSides_50 f_Way_readSides_70
        rw [v1, xbR_s, hbl]
        by_cases z : (s : Int) = w32 ((Ns : Int) - 1)
        · rw [if_pos z, if_pos z]
        · rw [if_neg z, if_neg z]
      have m14 : f_M_readSides_14 ((g_M_readNode F2).1) ((g_M_readNode F2).2) (fu2 + 1) (k : Int) (Ns : Int) ((dp + 1 : Nat) : Int) (s : Int) τ = (if v = 0 then (if u = 0 then (xbW (f_M_bad 1 τ2) fun r9 σ10 => some (xnb r9, σ10)) else (f_M_readSides_87 ((g_M_readNode F2).1) ((g_M_readNode F2).2) (fun z0 z1 z2 z3 sz => f_M_readSides_14 ((g_M_readNode F2).1) ((g_M_readNode F2).2) fu2 z0 z1 z2 z3 sz) (k : Int) (Ns : Int) ((dp + 1 : Nat) : Int) (s : Int) bl τ2)) else (f_M_readSides_87 ((g_M_readNode F2).1) ((g_M_readNode F2).2) (fun z0 z1 z2 z3 sz => f_M_readSides_14 ((g_M_readNode F2).1) ((g_M_readNode F2).2) fu2 z0 z1 z2 z3 sz) (k : Int) (Ns : Int) ((dp + 1 : Nat) : Int) (s : Int) bl τ2)) := by
        rw [f_M_readSides_14.eq_2, if_pos hlt, a2, xbW_s, if_neg (by decide), ew1, ew2, ew3, if_pos cb, Int.toNat_natCast, xlet_s, b4, ← ht2, hbl]
        unfold f_M_readSides_61
        by_cases z : (s : Int) = w32 ((Ns : Int) - 1)
        · rw [if_pos z, if_pos z, v2, xbR_s, u2, xbR_s]
        · rw [if_neg z, if_neg z, v2, xbR_s, u2, xbR_s]
      have m87 : f_M_readSides_87 ((g_M_readNode F2).1) ((g_M_readNode F2).2) (fun z0 z1 z2 z3 sz => f_M_readSides_14 ((g_M_readNode F2).1) ((g_M_readNode F2).2) fu2 z0 z1 z2 z3 sz) (k : Int) (Ns : Int) ((dp + 1 : Nat) : Int) (s : Int) bl τ2 = (if v = bl then (xbW (f_M_bad 5 τ2) fun r12 σ13 => some (xnb r12, σ13)) else (xbR (f_M_go τ2) fun σ14 => xlet (w32 ((s : Int) + 1)) fun x15 => f_M_readSides_14 ((g_M_readNode F2).1) ((g_M_readNode F2).2) fu2 (k : Int) (Ns : Int) ((dp + 1 : Nat) : Int) x15 σ14)) := by
        unfold f_M_readSides_87
        rw [v2, xbR_s]
      by_cases hvu : v = 0 ∧ u = 0
      · obtain ⟨σ3, τ3, w1, w2, w3, w4, w5, w6⟩ := hL2.hand.fail h91 (p := 1) (fun _ => rfl)
        refine Or.inr ⟨σ3, τ3, ?_, ?_, w3, kX1.fail w5, kM2.bad w6⟩
        · rw [x3, if_pos hvu.1, if_pos hvu.2, w1, xbW_s]; rfl
        · rw [m14, if_pos hvu.1, if_pos hvu.2, w2, xbW_s]; rfl
      · have s6 : σ1 2 6 = 6 ∧ τ2 111 7 = 4 := by
          rcases v0 with z | z
          · rcases u0 with y | y
            · exact absurd ⟨z, y⟩ hvu
            · exact ⟨(sgn1 (by rw [u1, y])).1, sgnM1 (by rw [u2, y])⟩
          · exact ⟨(sgn1 (by rw [v1, z])).1, sgnM1 (by rw [v2, z])⟩
        have x3b := x3
        have m14b := m14
        have key3 : f_Way_readSides_3 ((g_Way_readNode F).1) ((g_Way_readNode F).2) (fu + 1) ((dp + 1 : Nat) : Int) (k : Int) (Ns : Int) (s : Int) σ = (if v = bl then (xbW (f_Tokens_fail 5 σ1) fun r8 σ9 => some (xnb r8, σ9)) else (xbR (f_Tokens_step σ1) fun σ10 => xlet (w32 ((s : Int) + 1)) fun x11 => f_Way_readSides_3 ((g_Way_readNode F).1) ((g_Way_readNode F).2) fu ((dp + 1 : Nat) : Int) (k : Int) (Ns : Int) x11 σ10)) := by
          rw [x3]
          by_cases z : v = 0
          · rw [if_pos z, if_neg (fun y => hvu ⟨z, y⟩), x50]
          · rw [if_neg z, x50]
        have key14 : f_M_readSides_14 ((g_M_readNode F2).1) ((g_M_readNode F2).2) (fu2 + 1) (k : Int) (Ns : Int) ((dp + 1 : Nat) : Int) (s : Int) τ = (if v = bl then (xbW (f_M_bad 5 τ2) fun r12 σ13 => some (xnb r12, σ13)) else (xbR (f_M_go τ2) fun σ14 => xlet (w32 ((s : Int) + 1)) fun x15 => f_M_readSides_14 ((g_M_readNode F2).1) ((g_M_readNode F2).2) fu2 (k : Int) (Ns : Int) ((dp + 1 : Nat) : Int) x15 σ14)) := by
          rw [m14]
          by_cases z : v = 0
          · rw [if_pos z, if_neg (fun y => hvu ⟨z, y⟩), m87]
          · rw [if_neg z, m87]
        rw [key3, key14]
        clear x3 x3b m14 m14b key3 key14 x50 m87
        by_cases hvb : v = bl
        · obtain ⟨σ3, τ3, w1, w2, w3, w4, w5, w6⟩ := hL2.hand.fail h91 (p := 5) (fun z => by
            have := s6.2
            omega)
          refine Or.inr ⟨σ3, τ3, ?_, ?_, w3, kX1.fail w5, kM2.bad w6⟩
          · rw [if_pos hvb, w1, xbW_s]; rfl
          · rw [if_pos hvb, w2, xbW_s]; rfl
        · rw [if_neg hvb, if_neg hvb]
          have s61 := s6.1
          obtain ⟨σ3, τ3, w1, w2, w3, w4, w5⟩ := hL2.go1 (by omega) (by omega)
          rw [w1, w2, xbR_s, xbR_s, xlet_s, xlet_s, w32_n1 s100]
          have e3 : ∀ a q, 7 ≤ a → a ≤ 41 → σ3 a q = σ1 a q := fun a q z1 z2 => w4 a q (fun y => by omega)
          have f3 : ∀ q, τ3 115 q = τ2 115 q := fun q => w5 115 q (fun z => absurd z (by decide))
          exact ih fu fu2 (s + 1) (i1 + 1) N1 H' q1 σ3 τ3 (by omega) (by omega) (by omega) ⟨w3, by rw [w4 2 9 (fun _ => by decide)]; exact h91, by rw [w5 111 10 (fun _ => by decide)]; exact h102, kX1.step w4, kM2.go w5, by rw [w4 36 0 (fun z => absurd z (by decide))]; exact hx1, by rw [w5 111 25 (fun _ => by decide)]; exact hm2⟩ (by omega) gN2 (by rw [e3 36 1 (by decide) (by decide)]; exact b7) hMx1 (hH2.cg (h36 kX1) e3 f3) (hGx1.cgr (fun a q z1 z2 => e3 a q (by omega) (by omega))) ⟨by rw [w5 111 25 (fun _ => by decide)]; exact hm2, fun q hq => by rw [f3, hGm2.2 q hq]⟩
    · refine Or.inr ⟨σ1, τ1, ?_, ?_, a3⟩
      · rw [f_Way_readSides_3.eq_2, if_pos hlt, a1, xbW_s, if_pos rfl]
      · rw [f_M_readSides_14.eq_2, if_pos hlt, a2, xbW_s, if_pos rfl]
theorem leaf_fin (hG : Inv0 G) (hX : ∀ a q, 7 ≤ a → a ≤ 15 → σ0 a q = G a q) {D dp i N sd q : Nat} {fr so wh : Int} {σ τ σ2 τ1 : xSt} (hR : WyR σ0 τ0 d n c i (N + 1) σ2 τ1) (hGx : GrX 36 N (N + 1) fr sd σ σ2) (hGm : GrM N (N + 1) τ τ1) (h26 : τ1 111 26 = (N : Int)) (a1 : σ2 37 N = so) (a2 : σ2 38 N = wh) (a3 : ∀ s : Nat, s < 6 → σ2 41 (6 * N + s) = -1) (b1 : τ1 115 (8 * N) = so) (b2 : τ1 115 (8 * N + 1) = wh) (b3 : ∀ s : Nat, s < 6 → τ1 115 (8 * N + 2 + s) = -1) (hq : σ2 36 1 = (q : Int)) (hdp : dp ≤ q)
    (hsw : so = 0 ∧ 0 ≤ wh ∧ wh < G 7 2 ∨ so = 1 ∧ wh = -1) : WyN σ0 τ0 d n c D dp N fr sd q σ τ σ2 τ1 := by
  have e7 : σ2 7 2 = G 7 2 := (hR.2.2.2.1 7 2 (by decide) (by unfold wyW; omega)).trans (hX 7 2 (by decide) (by decide))
  have lf : σ2 37 N = 0 ∧ 0 ≤ σ2 38 N ∧ σ2 38 N < σ2 7 2 ∨ σ2 37 N = 1 ∧ σ2 38 N = -1 := by
    rw [a1, a2, e7]
    exact hsw
  refine ⟨i, N + 1, 0, q, hR, hGx, hGm, h26, fun k h1 h2 => ?_, Sub_leaf lf D, hq, ⟨Or.inl rfl, Nat.le_refl q, by omega⟩⟩
  obtain rfl : k = N := by omega
  refine ⟨a1.trans b1.symm, a2.trans b2.symm, fun s hs => (a3 s hs).trans (b3 s hs).symm, fun s hs => Or.inr (a3 s hs), ?_⟩
  rcases lf with z | z
  · exact Or.inl z
  · exact Or.inr (Or.inl z)
theorem node_step (hG : Inv0 G) (hX : ∀ a q, 7 ≤ a → a ≤ 15 → σ0 a q = G a q) (h113 : ∀ q, τ0 113 q = G 113 q) (h117 : ∀ q, τ0 117 q = G 117 q) (D dp : Nat) (hD : D + dp = 6) (ih : ∀ D', D = D' + 1 → NodeL σ0 τ0 d n c D' (dp + 1)) : NodeL σ0 τ0 d n c D dp := by
  intro F F2 i N q sd fr σ τ hF hF2 hR hN80 hfr hsd hq hdq
  obtain ⟨F, rfl⟩ : ∃ n2, F = n2 + 1 := ⟨F - 1, by omega⟩
  obtain ⟨F2, rfl⟩ : ∃ n2, F2 = n2 + 1 := ⟨F2 - 1, by omega⟩
  obtain ⟨hL, h9, h10, kX, kM, hx, hm⟩ := id hR
  have e1 : ∀ {σ : xSt}, KpX wyW σ0 σ → ∀ a q, 7 ≤ a → a ≤ 15 → σ a q = G a q := fun k a q z1 z2 => (k a q (by omega) (by unfold wyW; omega)).trans (hX a q z1 z2)
  have e2 : ∀ {τ : xSt}, KpM wyV τ0 τ → ∀ q, τ 113 q = G 113 q := fun k q => (k 113 q (fun z => by omega) (by unfold wyV; omega)).trans (h113 q)
  have e3 : ∀ {τ : xSt}, KpM wyV τ0 τ → ∀ q, τ 117 q = G 117 q := fun k q => (k 117 q (fun z => by omega) (by unfold wyV; omega)).trans (h117 q)
  obtain ⟨t1, t2, t3⟩ := hG.things
  have xe : (g_Way_readNode (F + 1)).1 (dp : Int) fr (sd : Int) σ = f0_Way_readNode ((g_Way_readNode F).1) ((g_Way_readNode F).2) (dp : Int) fr (sd : Int) σ := rfl
  have me : (g_M_readNode (F2 + 1)).1 (dp : Int) τ = f0_M_readNode ((g_M_readNode F2).1) ((g_M_readNode F2).2) (dp : Int) τ := rfl
  rw [xe, me]
  have d100 : dp < 100000 := by omega
  obtain ⟨v, v0, v1, v2⟩ := hL.hand.word (a := 155) (k := 4) (by decide)
  have v2' : f_M_isWord 4 τ = some v := v2
  -- too many
  have many : τ 111 7 ≠ 1 → ∃ σ' τ', f_Tokens_fail 4 σ = some (0, σ') ∧ f_M_bad 4 τ = some (0, τ') ∧ WyB σ0 τ0 σ' τ' := fun h7 => by
    obtain ⟨σ', τ', a1, a2, a3, a4, a5, a6⟩ := hL.hand.fail h9 (p := 4) (fun z => absurd z h7)
    exact ⟨σ', τ', a1, a2, a3, kX.fail a5, kM.bad a6⟩
  have x108 : ∀ qa qb σ', f_Tokens_fail 4 σ = some (0, σ') → f_Way_readNode_108 qa qb σ = some (0, σ') := fun qa qb σ' h => by
    unfold f_Way_readNode_108
    rw [h, xbW_s]
    rfl
  have m122 : ∀ qa qb τ', f_M_bad 4 τ = some (0, τ') → f_M_readNode_122 qa qb τ = some (0, τ') := fun qa qb σ' h => by
    unfold f_M_readNode_122
    rw [h, xbW_s]
    rfl
  by_cases hv : v = 0
  · rcases hL.hand.name with ⟨n1, n2, n3⟩ | ⟨n1, n2⟩
    · have s4 := nam1 n1
      have m7 := namM1 n2
      obtain ⟨p1, e, p2, p3, p4⟩ := end_find hG (e1 kX) (e2 kM) (e3 kM) n3
      obtain ⟨q1, t, q2, q3, q4⟩ := thing_find hG (e1 kX) (e2 kM) (e3 kM) n3
      have x62 : ∀ qa qb, f0_Way_readNode qa qb (dp : Int) fr (sd : Int) σ = (if e = -1 then (if t = -1 then (xbW (f_Tokens_fail 3 σ) fun r7 σ8 => some (xnb r7, σ8)) else (f_Way_readNode_87 qa qb (dp : Int) fr (sd : Int) 0 e t σ)) else (f_Way_readNode_87 qa qb (dp : Int) fr (sd : Int) 0 e t σ)) := fun qa qb => by
        unfold f0_Way_readNode f_Way_readNode_26 f_Way_readNode_43 f_Way_readNode_62
        rw [v1, xbR_s, if_pos hv, n1, xbR_s, if_neg (by decide), hv, if_pos rfl, p2, xbR_s, if_pos rfl, q2, xbR_s, if_pos rfl]
      have m102 : ∀ qa qb, f0_M_readNode qa qb (dp : Int) τ = (if e = -1 then (if t = -1 then (xbW (f_M_bad 3 τ) fun r9 σ10 => some (xnb r9, σ10)) else (f_M_readNode_102 qa qb (dp : Int) e t τ)) else (f_M_readNode_102 qa qb (dp : Int) e t τ)) := fun qa qb => by
        unfold f0_M_readNode
        rw [v2', xbR_s, if_pos hv, n2, xbR_s, if_neg (by decide), p1, xbR_s, p3, xbR_s, q1, xbR_s, q3, xbR_s]
      by_cases het : e = -1 ∧ t = -1
      · obtain ⟨σ', τ', a1, a2, a3, a4, a5, a6⟩ := hL.hand.fail h9 (p := 3) (fun z => by omega)
        refine Or.inr ⟨σ', τ', ?_, ?_, a3, kX.fail a5, kM.bad a6⟩
        · rw [x62, if_pos het.1, if_pos het.2, a1, xbW_s]; rfl
        · rw [m102, if_pos het.1, if_pos het.2, a2, xbW_s]; rfl
      · have x87 : ∀ qa qb, f0_Way_readNode qa qb (dp : Int) fr (sd : Int) σ = f_Way_readNode_87 qa qb (dp : Int) fr (sd : Int) 0 e t σ := fun qa qb => by
          rw [x62]
          by_cases z : e = -1
          · rw [if_pos z, if_neg (fun y => het ⟨z, y⟩)]
          · rw [if_neg z]
        have m102b : ∀ qa qb, f0_M_readNode qa qb (dp : Int) τ = f_M_readNode_102 qa qb (dp : Int) e t τ := fun qa qb => by
          rw [m102]
          by_cases z : e = -1
          · rw [if_pos z, if_neg (fun y => het ⟨z, y⟩)]
          · rw [if_neg z]
        clear x62 m102
        by_cases hN : N < 80
        · have c80 : σ 36 0 < 80 := by omega
          have c80m : ¬ τ 111 25 = 80 := by omega
          by_cases ht : t = -1
          · obtain ⟨σ1, τa, τ1, l1, l2, l3, l4, l5, l6⟩ := lay_lock hR hN (by omega) (by omega) 0 e hfr hsd
            obtain ⟨σ2, k1, k2, k3, k4, k5, k6, k7, k8, k9, k10, k11⟩ := l6 σ1 (fun _ _ _ => rfl)
            refine Or.inl ⟨σ2, τ1, ?_, ?_, leaf_fin hG hX k2 k3 k4 l5 k5 k6 k7 k8 k9 k10 (by rw [k11, l4]; exact hq) hdq (Or.inl ⟨rfl, by omega, by omega⟩)⟩
            · rw [x87]
              unfold f_Way_readNode_87 f_Way_readNode_114 f_Way_readNode_135
              rw [if_pos c80, if_pos ht, l1, xbR_s, if_pos ht, if_pos rfl, k1, xbW_s]
            · rw [m102b]
              unfold f_M_readNode_102 f_M_readNode_128 f_M_readNode_140 f_M_readNode_150
              rw [if_neg c80m, if_pos ht, if_pos ht, if_pos ht, l2, xbW_s, xlet_s, l3, xbR_s, if_pos ht]
          · obtain ⟨tn, rfl⟩ : ∃ tn : Nat, t = (tn : Int) := ⟨t.toNat, by omega⟩
            by_cases hd6 : dp = 6
            · obtain ⟨σ', τ', a1, a2, a3⟩ := many (by omega)
              refine Or.inr ⟨σ', τ', ?_, ?_, a3⟩
              · rw [x87]
                unfold f_Way_readNode_87
                rw [if_pos c80, if_neg ht, if_neg (show ¬ (dp : Int) < 6 by omega), x108 _ _ σ' a1]
              · rw [m102b]
                unfold f_M_readNode_102
                rw [if_neg c80m, if_neg ht, if_pos (show (dp : Int) = 6 by omega), m122 _ _ τ' a2]
            · obtain ⟨D', hD'⟩ : ∃ D', D = D' + 1 := ⟨D - 1, by omega⟩
              have hI := ih D' hD'
              obtain ⟨F, rfl⟩ : ∃ n2, F = n2 + 1 := ⟨F - 1, by omega⟩
              obtain ⟨F2, rfl⟩ : ∃ n2, F2 = n2 + 1 := ⟨F2 - 1, by omega⟩
              have htn : (tn : Int) < G 7 1 := by omega
              obtain ⟨h1, h2, h3, -⟩ := hG.th (p := (tn : Int)) (Int.natCast_nonneg tn) htn
              rw [Int.toNat_natCast] at h1 h2 h3
              have t3b : (tn : Int) < 3 := by omega
              obtain ⟨Ns, hNs⟩ : ∃ Ns : Nat, G 10 tn = (Ns : Int) := ⟨(G 10 tn).toNat, by omega⟩
              obtain ⟨q', hq'⟩ : ∃ q' : Nat, q' = if q < dp + 1 then dp + 1 else q := ⟨_, rfl⟩
              have hMq : Mxq q (dp + 1 + 0) q' := by
                unfold Mxq
                by_cases z : q < dp + 1
                · rw [if_pos z] at hq'; omega
                · rw [if_neg z] at hq'; omega
              have hmx : xmax (σ 36 1) (w32 ((dp : Int) + 1)) = (q' : Int) := by
                rw [hq, w32_n1 d100, hq']
                unfold xmax
                by_cases z : q < dp + 1
                · rw [if_pos z, if_pos (by omega)]
                · rw [if_neg z, if_neg (by omega)]
              obtain ⟨σ1, τa, τ1, l1, l2, l3, l4, l5, l6⟩ := lay_lock hR hN (by omega) (by omega) 2 (tn : Int) hfr hsd
              obtain ⟨σ2, k1, k2, k3, k4, k5, k6, k7, k8, k9, k10, k11⟩ := l6 (upS σ1 36 1 (q' : Int)) (fun a k z => by rw [upS_rd, if_neg (fun y => z y.1 y.2)])
              rw [upS_eq] at k11
              obtain ⟨hL2, h92, h102, kX2, kM2, hx2, hm2⟩ := id k2
              have x114 : f0_Way_readNode ((g_Way_readNode (F + 1)).1) ((g_Way_readNode (F + 1)).2) (dp : Int) fr (sd : Int) σ = (xbW (f_Tokens_pass 40 σ2) fun r13 σ14 => if r13 = 0 then (some (0, σ14)) else (xbR (f_Table_sidesOf (tn : Int) σ14) fun r15 => xbW (f0_Way_readSides ((g_Way_readNode F).1) ((g_Way_readNode F).2) ((dp + 1 : Nat) : Int) (N : Int) r15 σ14) fun r16 σ17 => if r16 = 0 then (some (0, σ17)) else (some (1, σ17)))) := by
                rw [x87]
                unfold f_Way_readNode_87 f_Way_readNode_114
                rw [if_pos c80, if_neg ht, if_pos (show (dp : Int) < 6 by omega), l1, xbR_s, if_neg ht, l4, hmx, xlet_s, k1, xbW_s, w32_n1 d100]
                rfl
              have m150 : f0_M_readNode ((g_M_readNode (F2 + 1)).1) ((g_M_readNode (F2 + 1)).2) (dp : Int) τ = (xbR (f_M_sidesOf (tn : Int) τ1) fun r23 => xbW (f0_M_readSides ((g_M_readNode F2).1) ((g_M_readNode F2).2) (N : Int) r23 ((dp + 1 : Nat) : Int) τ1) fun r24 σ25 => if r24 = 0 then (some (0, σ25)) else (some (1, σ25))) := by
                rw [m102b]
                unfold f_M_readNode_102 f_M_readNode_128 f_M_readNode_140 f_M_readNode_150
                rw [if_neg c80m, if_neg ht, if_neg (show ¬ (dp : Int) = 6 by omega), if_neg ht, if_neg ht, l2, xbW_s, xlet_s, l3, xbR_s, if_neg ht, l5, w32_n1 d100]
                rfl
              have mS : f_M_sidesOf (tn : Int) τ1 = some (Ns : Int) := by
                rw [m_sidesOf (Int.natCast_nonneg tn) t3b, Int.toNat_natCast, e2 kM2, ← h1, hNs]
              rcases pass_lock hL2 h92 40 with ⟨σ3, τ3, w1, w2, w3, w4, w5⟩ | ⟨σ3, τ3, w1, w2, w3, w4, w5, w6⟩
              · have kX3 := kX2.step w4
                have kM3 := kM2.go w5
                have cS : f_Table_sidesOf (tn : Int) σ3 = some (Ns : Int) := by
                  rw [x_sidesOf (by rw [e1 kX3 7 1 (by decide) (by decide)]; exact t3), e1 kX3 7 1 (by decide) (by decide), if_pos ⟨Int.natCast_nonneg tn, htn⟩, Int.toNat_natCast, e1 kX3 10 tn (by decide) (by decide), hNs]
                have g3 : ∀ a q, a ≠ 2 → σ3 a q = σ2 a q := fun a q z => w4 a q (fun y => absurd y z)
                have f3 : ∀ q, τ3 115 q = τ1 115 q := fun q => w5 115 q (fun z => absurd z (by decide))
                have hR3 : WyR σ0 τ0 d n c (i + 1 + 1) (N + 1) σ3 τ3 := ⟨w3, by rw [w4 2 9 (fun _ => by decide)]; exact h92, by rw [w5 111 10 (fun _ => by decide)]; exact h102, kX3, kM3, by rw [g3 36 0 (by decide)]; exact hx2, by rw [w5 111 25 (fun _ => by decide)]; exact hm2⟩
                have hP : WyP σ3 τ3 D' N tn 0 (N + 1) 0 := ⟨fun _ => N + 1, fun _ => 0, rfl, rfl, fun x hx => absurd hx (Nat.not_lt_zero x), Or.inl ⟨rfl, rfl⟩, by rw [g3 37 N (by decide)]; exact k5, by rw [g3 38 N (by decide)]; exact k6, by rw [f3]; exact k8, by rw [f3]; exact k9, fun x _ h2 => ⟨by rw [g3 41 _ (by decide)]; exact k7 x h2, by rw [f3]; exact k10 x h2⟩, fun x h1 h2 => by omega⟩
                have hGx3 : GrX 36 N (N + 1) fr sd σ σ3 := k3.cgr (fun a q z1 z2 => g3 a q (by omega))
                have hGm3 : GrM N (N + 1) τ τ3 := ⟨by rw [w5 111 25 (fun _ => by decide)]; exact hm2, fun q hq => by rw [f3, k4.2 q hq]⟩
                have xfs : f0_Way_readSides ((g_Way_readNode F).1) ((g_Way_readNode F).2) ((dp + 1 : Nat) : Int) (N : Int) (Ns : Int) σ3 = f_Way_readSides_3 ((g_Way_readNode F).1) ((g_Way_readNode F).2) 1000000 ((dp + 1 : Nat) : Int) (N : Int) (Ns : Int) ((0 : Nat) : Int) σ3 := rfl
                have mfs : f0_M_readSides ((g_M_readNode F2).1) ((g_M_readNode F2).2) (N : Int) (Ns : Int) ((dp + 1 : Nat) : Int) τ1 = f_M_readSides_14 ((g_M_readNode F2).1) ((g_M_readNode F2).2) 1000000 (N : Int) (Ns : Int) ((dp + 1 : Nat) : Int) ((0 : Nat) : Int) τ3 := by
                  unfold f0_M_readSides
                  rw [w2, xbW_s, if_neg (by decide)]
                  rfl
                rw [w1, xbW_s, if_neg (by decide), cS, xbR_s, xfs] at x114
                rw [mS, xbR_s, mfs] at m150
                rcases sides_lock (t := tn) (Ns := Ns) (sd0 := sd) (σs := σ) (τs := τ) hG hX hI (by omega) hN hfr hsd (by omega) (F := F) (F2 := F2) (by omega) (by omega) Ns 1000000 1000000 0 (i + 1 + 1) (N + 1) 0 q' σ3 τ3 (by omega) (by omega) (by omega) hR3 (by omega) (by omega) (by rw [g3 36 1 (by decide)]; exact k11) hMq hP hGx3 hGm3 with ⟨σ', τ', i', N', H', q'', z1, z2, z3, z4, z5, z6, z7, z8, z9⟩ | ⟨σ', τ', z1, z2, z3⟩
                · rw [z1, xbW_s, if_neg (by decide)] at x114
                  rw [z2, xbW_s, if_neg (by decide)] at m150
                  have kX4 := z3.2.2.2.1
                  obtain ⟨y1, y2⟩ := z7.done (by rw [e1 kX4 10 tn (by decide) (by decide)]; exact hNs) (by omega) (by omega) (by rw [e1 kX4 7 1 (by decide) (by decide)]; exact htn)
                  rw [← hD'] at y2
                  obtain ⟨-, -, -, -, -, -, -, -, -, -, -, y3⟩ := z7
                  refine Or.inl ⟨σ', τ', x114, m150, i', N', H' + 1, q'', z3, z8, z9, z4, fun x h1 h2 => ?_, y2, z5, ?_⟩
                  · by_cases hxN : x = N
                    · rw [hxN]; exact y1
                    · exact y3 x (by omega) h2
                  · rw [show dp + (H' + 1) = dp + 1 + H' by omega]
                    exact z6
                · rw [z1, xbW_s, if_pos rfl] at x114
                  rw [z2, xbW_s, if_pos rfl] at m150
                  exact Or.inr ⟨σ', τ', x114, m150, z3⟩
              · rw [w1, xbW_s, if_pos rfl] at x114
                have mfs : f0_M_readSides ((g_M_readNode F2).1) ((g_M_readNode F2).2) (N : Int) (Ns : Int) ((dp + 1 : Nat) : Int) τ1 = some (0, τ3) := by
                  unfold f0_M_readSides
                  rw [w2, xbW_s, if_pos rfl]
                rw [mS, xbR_s, mfs, xbW_s, if_pos rfl] at m150
                exact Or.inr ⟨σ3, τ3, x114, m150, w3, kX2.fail w5, kM2.bad w6⟩
        · obtain ⟨σ', τ', a1, a2, a3⟩ := many (by omega)
          refine Or.inr ⟨σ', τ', ?_, ?_, a3⟩
          · rw [x87]
            unfold f_Way_readNode_87
            rw [if_neg (show ¬ σ 36 0 < 80 by omega), x108 _ _ σ' a1]
          · rw [m102b]
            unfold f_M_readNode_102
            rw [if_pos (show τ 111 25 = 80 by omega), m122 _ _ τ' a2]
    · obtain ⟨σ', τ', a1, a2, a3, a4, a5, a6⟩ := hL.hand.fail h9 (p := 1) (fun _ => rfl)
      refine Or.inr ⟨σ', τ', ?_, ?_, a3, kX.fail a5, kM.bad a6⟩
      · unfold f0_Way_readNode
        rw [v1, xbR_s, if_pos hv, n1, xbR_s, if_pos rfl, a1, xbW_s]
        rfl
      · unfold f0_M_readNode
        rw [v2', xbR_s, if_pos hv, n2, xbR_s, if_pos rfl, a2, xbW_s]
        rfl
  · have hv1 : v = 1 := by omega
    have s3 : σ 2 6 = 3 := wrd1 (a := 155) (k := 4) (by decide) (by rw [v1, hv1])
    have m7 : τ 111 7 = 2 := wrdM1 (k := 4) (by decide) (by rw [v2, hv1])
    have x87 : ∀ qa qb, f0_Way_readNode qa qb (dp : Int) fr (sd : Int) σ = f_Way_readNode_87 qa qb (dp : Int) fr (sd : Int) v (-1) (-1) σ := fun qa qb => by
      unfold f0_Way_readNode f_Way_readNode_26 f_Way_readNode_43 f_Way_readNode_62
      rw [v1, xbR_s, if_neg hv, if_neg hv, if_neg hv, if_neg hv]
    by_cases hN : N < 80
    · have c80 : σ 36 0 < 80 := by omega
      have c80m : ¬ τ 111 25 = 80 := by omega
      obtain ⟨σ1, τa, τ1, l1, l2, l3, l4, l5, l6⟩ := lay_lock hR hN (by omega) (by omega) 1 (-1) hfr hsd
      obtain ⟨σ2, k1, k2, k3, k4, k5, k6, k7, k8, k9, k10, k11⟩ := l6 σ1 (fun _ _ _ => rfl)
      refine Or.inl ⟨σ2, τ1, ?_, ?_, leaf_fin hG hX k2 k3 k4 l5 k5 k6 k7 k8 k9 k10 (by rw [k11, l4]; exact hq) hdq (Or.inr ⟨rfl, rfl⟩)⟩
      · rw [x87]
        unfold f_Way_readNode_87 f_Way_readNode_114 f_Way_readNode_135
        rw [if_pos c80, if_pos rfl, l1, xbR_s, if_pos rfl, if_neg hv, k1, xbW_s]
      · unfold f0_M_readNode
        rw [v2', xbR_s, if_neg hv, if_neg c80m, l2, xbW_s, xlet_s, l3, xbR_s]
    · obtain ⟨σ', τ', a1, a2, a3⟩ := many (by omega)
      refine Or.inr ⟨σ', τ', ?_, ?_, a3⟩
      · rw [x87]
        unfold f_Way_readNode_87
        rw [if_neg (show ¬ σ 36 0 < 80 by omega), x108 _ _ σ' a1]
      · unfold f0_M_readNode
        rw [v2', xbR_s, if_neg hv, if_pos (show τ 111 25 = 80 by omega), a2, xbW_s]
        rfl
theorem node_lock (hG : Inv0 G) (hX : ∀ a q, 7 ≤ a → a ≤ 15 → σ0 a q = G a q) (h113 : ∀ q, τ0 113 q = G 113 q) (h117 : ∀ q, τ0 117 q = G 117 q) : ∀ D dp : Nat, D + dp = 6 → NodeL σ0 τ0 d n c D dp := by
  intro D
  induction D with
  | zero => exact fun dp hD => node_step hG hX h113 h117 0 dp hD (fun D' hD' => absurd hD' (by omega))
  | succ D ih => exact fun dp hD => node_step hG hX h113 h117 (D + 1) dp hD (fun D' hD' => by
      obtain rfl : D = D' := by omega
      exact ih (dp + 1) (by omega))
end
