/-! WAYS read in lock-step: what stands between the tokens -/
def wyW (a : Nat) : Prop := 36 ≤ a ∧ a ≤ 41
def wyV (a q : Nat) : Prop := a = 115 ∨ a = 111 ∧ (q = 25 ∨ q = 26)
def Mxq (a b c : Nat) : Prop := (c = a ∨ c = b) ∧ a ≤ c ∧ b ≤ c
def WyR (σ0 τ0 : xSt) (d : Nat → Int) (n c i N : Nat) (σ τ : xSt) : Prop := LR d n 600 c i σ τ ∧ σ 2 9 = 0 ∧ τ 111 10 = 0 ∧ KpX wyW σ0 σ ∧ KpM wyV τ0 τ ∧ σ 36 0 = (N : Int) ∧ τ 111 25 = (N : Int)
def WyB (σ0 τ0 : xSt) (σ τ : xSt) : Prop := Flt σ τ ∧ KpX wyW σ0 σ ∧ KpM wyV τ0 τ
theorem sgnM1 {p : Int} {τ : xSt} (h : f_M_isSign p τ = some 1) : τ 111 7 = 4 := by
  unfold f_M_isSign at h
  by_cases z1 : τ 111 7 = 4
  · exact z1
  · rw [if_neg z1] at h
    cases h
theorem wrdM1 {k : Nat} (hk : k < 14) {τ : xSt} (h : f_M_isWord (k : Int) τ = some 1) : τ 111 7 = 2 := by
  rw [m_isW hk] at h
  by_cases z : τ 111 7 = 2 ∧ τ 111 12 = (pkN 27 (wrdL.getD k []) : Int)
  · exact z.1
  · rw [if_neg z] at h
    cases h
theorem GrX.cgl {w n n' sd : Nat} {fr : Int} {σ ρ σ' : xSt} (h : GrX w n n' fr sd ρ σ') (e : ∀ a q, w + 1 ≤ a → a ≤ w + 5 → ρ a q = σ a q) : GrX w n n' fr sd σ σ' := by
  obtain ⟨c0, c1, c2, c3, c4, c5, c6, c7⟩ := h
  refine ⟨c0, c1, c2, c3, c4, c5, fun k hk => ?_, fun q h1 h2 => ?_⟩
  · obtain ⟨v1, v2, v3, v4⟩ := c6 k hk
    exact ⟨v1.trans (e _ _ (by omega) (by omega)), v2.trans (e _ _ (by omega) (by omega)), v3.trans (e _ _ (by omega) (by omega)), v4.trans (e _ _ (by omega) (by omega))⟩
  · exact (c7 q h1 h2).trans (e _ _ (by omega) (by omega))
theorem GrX.cgr {w n n' sd : Nat} {fr : Int} {σ ρ σ' : xSt} (h : GrX w n n' fr sd σ ρ) (e : ∀ a q, w ≤ a → a ≤ w + 5 → σ' a q = ρ a q) : GrX w n n' fr sd σ σ' := by
  obtain ⟨c0, c1, c2, c3, c4, c5, c6, c7⟩ := h
  refine ⟨(e _ _ (by omega) (by omega)).trans c0, c1, c2, (e _ _ (by omega) (by omega)).trans c3, (e _ _ (by omega) (by omega)).trans c4, fun z => (e _ _ (by omega) (by omega)).trans (c5 z), fun k hk => ?_, fun q h1 h2 => ?_⟩
  · obtain ⟨v1, v2, v3, v4⟩ := c6 k hk
    exact ⟨(e _ _ (by omega) (by omega)).trans v1, (e _ _ (by omega) (by omega)).trans v2, (e _ _ (by omega) (by omega)).trans v3, (e _ _ (by omega) (by omega)).trans v4⟩
  · exact (e _ _ (by omega) (by omega)).trans (c7 q h1 h2)
theorem Sub.cg {σ σ' : xSt} {D k e' m : Nat} (h : Sub σ 7 36 D k e' m) (h36 : ∀ k : Nat, (k : Int) < σ 7 1 → σ 10 k ≤ 6) (e : ∀ a q, 7 ≤ a → a ≤ 41 → σ' a q = σ a q) : Sub σ' 7 36 D k e' m :=
  Sub_rng (b := 7) (w := 36) (fun k => e 7 k (by decide) (by decide)) (fun k => e 10 k (by decide) (by decide)) h36 D k _ m (fun i _ _ => ⟨e 37 i (by decide) (by decide), e 38 i (by decide) (by decide), fun s _ => e 41 _ (by decide) (by decide)⟩) (fun i _ _ => ⟨e 39 i (by decide) (by decide), e 40 i (by decide) (by decide)⟩) h
theorem NdX.cg {σ σ' τ τ' : xSt} {k : Nat} (h : NdX σ τ 7 36 k) (e : ∀ a q, 7 ≤ a → a ≤ 41 → σ' a q = σ a q) (f : ∀ q, 8 * k ≤ q → q < 8 * k + 8 → τ' 115 q = τ 115 q) : NdX σ' τ' 7 36 k :=
  NdX_keep (b := 7) (w := 36) (fun k => e 7 k (by decide) (by decide)) (fun k => e 10 k (by decide) (by decide)) (e 37 k (by decide) (by decide)) (e 38 k (by decide) (by decide)) (fun s _ => e 41 _ (by decide) (by decide)) f h
/-- a THING's NODE k, of which s sides stand -/
def WyP (σ τ : xSt) (D k t s Nc H : Nat) : Prop := ∃ f h : Nat → Nat, f 0 = k + 1 ∧ f s = Nc ∧
  (∀ x, x < s → Sub σ 7 36 D (f x) (f (x + 1)) (h x) ∧ σ 39 (f x) = (k : Int) ∧ σ 40 (f x) = (x : Int) ∧ σ 41 (6 * k + x) = (f x : Int) ∧ τ 115 (8 * k + 2 + x) = (f x : Int) ∧ h x ≤ H ∧ k < f x ∧ f (x + 1) ≤ Nc ∧ f x < Nc) ∧
  (s = 0 ∧ H = 0 ∨ ∃ x, x < s ∧ h x = H) ∧ σ 37 k = 2 ∧ σ 38 k = (t : Int) ∧ τ 115 (8 * k) = 2 ∧ τ 115 (8 * k + 1) = (t : Int) ∧
  (∀ x, s ≤ x → x < 6 → σ 41 (6 * k + x) = -1 ∧ τ 115 (8 * k + 2 + x) = -1) ∧ (∀ x, k < x → x < Nc → NdX σ τ 7 36 x)
theorem WyP.cg {σ τ σ' τ' : xSt} {D k t s Nc H : Nat} (h : WyP σ τ D k t s Nc H) (h36 : ∀ k : Nat, (k : Int) < σ 7 1 → σ 10 k ≤ 6) (e : ∀ a q, 7 ≤ a → a ≤ 41 → σ' a q = σ a q) (g : ∀ q, τ' 115 q = τ 115 q) : WyP σ' τ' D k t s Nc H := by
  obtain ⟨f, hh, p1, p2, p3, p4, p5, p6, p7, p8, p9, p10⟩ := h
  refine ⟨f, hh, p1, p2, fun x hx => ?_, p4, ?_, ?_, ?_, ?_, fun x h1 h2 => ?_, fun x h1 h2 => ?_⟩
  · obtain ⟨a1, a2, a3, a4, a5, a6⟩ := p3 x hx
    exact ⟨a1.cg h36 e, (e 39 _ (by decide) (by decide)).trans a2, (e 40 _ (by decide) (by decide)).trans a3, (e 41 _ (by decide) (by decide)).trans a4, (g _).trans a5, a6⟩
  · exact (e 37 _ (by decide) (by decide)).trans p5
  · exact (e 38 _ (by decide) (by decide)).trans p6
  · exact (g _).trans p7
  · exact (g _).trans p8
  · obtain ⟨a1, a2⟩ := p9 x h1 h2
    exact ⟨(e 41 _ (by decide) (by decide)).trans a1, (g _).trans a2⟩
  · exact (p10 x h1 h2).cg e (fun q _ _ => g q)
/-- one side more -/
theorem WyP.more {σ τ σ1 τ1 τ2 : xSt} {D k t s Nc N1 H m : Nat} (h : WyP σ τ D k t s Nc H) (h36 : ∀ k : Nat, (k : Int) < σ 7 1 → σ 10 k ≤ 6) (hs6 : s < 6) (hk : k < Nc) (hg : GrX 36 Nc N1 (k : Int) s σ σ1) (hm : GrM Nc N1 τ τ1) (e : ∀ a q, 7 ≤ a → a ≤ 15 → σ1 a q = σ a q)
    (hN : ∀ x, Nc ≤ x → x < N1 → NdX σ1 τ1 7 36 x) (hS : Sub σ1 7 36 D Nc N1 m) (ht : τ2 = upS τ1 115 (8 * k + 2 + s) (Nc : Int)) : ∃ H', Mxq H m H' ∧ WyP σ1 τ2 D k t (s + 1) N1 H' := by
  obtain ⟨f, hh, p1, p2, p3, p4, p5, p6, p7, p8, p9, p10⟩ := h
  obtain ⟨-, g1, g2, g3, g4, g5, g6, g7⟩ := id hg
  have g5 := g5 (Int.natCast_nonneg k)
  rw [Int.toNat_natCast] at g5 g7
  obtain ⟨H', hH⟩ : ∃ H', Mxq H m H' := ⟨if H ≤ m then m else H, by
    unfold Mxq
    by_cases z : H ≤ m
    · rw [if_pos z]; omega
    · rw [if_neg z]; omega⟩
  have t2 : ∀ q, q ≠ 8 * k + 2 + s → τ2 115 q = τ1 115 q := fun q hq => by rw [ht, upS_nk hq]
  have t0 : ∀ q, q < 8 * Nc → q ≠ 8 * k + 2 + s → τ2 115 q = τ 115 q := fun q h1 h2 => by rw [t2 q h2, hm.2 q h1]
  refine ⟨H', hH, fun x => if x ≤ s then f x else N1, fun x => if x < s then hh x else m, ?_, ?_, fun x hx => ?_, Or.inr ?_, ?_, ?_, ?_, ?_, fun x h1 h2 => ?_, fun x h1 h2 => ?_⟩
  · show (if 0 ≤ s then f 0 else N1) = k + 1
    rw [if_pos (Nat.zero_le s)]
    exact p1
  · show (if s + 1 ≤ s then f (s + 1) else N1) = N1
    rw [if_neg (by omega)]
  · show Sub σ1 7 36 D (if x ≤ s then f x else N1) (if x + 1 ≤ s then f (x + 1) else N1) (if x < s then hh x else m) ∧ σ1 39 (if x ≤ s then f x else N1) = (k : Int) ∧ σ1 40 (if x ≤ s then f x else N1) = (x : Int) ∧ σ1 41 (6 * k + x) = ((if x ≤ s then f x else N1 : Nat) : Int) ∧ τ2 115 (8 * k + 2 + x) = ((if x ≤ s then f x else N1 : Nat) : Int) ∧ (if x < s then hh x else m) ≤ H' ∧ k < (if x ≤ s then f x else N1) ∧ (if x + 1 ≤ s then f (x + 1) else N1) ≤ N1 ∧ (if x ≤ s then f x else N1) < N1
    rw [if_pos (show x ≤ s by omega)]
    by_cases hx2 : x < s
    · rw [if_pos (show x + 1 ≤ s by omega), if_pos hx2]
      obtain ⟨a1, a2, a3, a4, a5, a6, a7, a8, a9⟩ := p3 x hx2
      obtain ⟨-, -, v3, v4⟩ := g6 (f x) a9
      refine ⟨Sub_gr (b := 7) (w := 36) hg a8 a7 hs6 (fun q => e 7 q (by decide) (by decide)) (fun q => e 10 q (by decide) (by decide)) h36 a1, v3.trans a2, v4.trans a3, (g7 _ (by omega) (fun _ => by omega)).trans a4, ?_, ?_, a7, by omega, by omega⟩
      · rw [t0 _ (by omega) (by omega)]
        exact a5
      · have := hH.2.1
        omega
    · obtain rfl : x = s := by omega
      rw [if_neg (show ¬ x + 1 ≤ x by omega), if_neg hx2, p2]
      refine ⟨hS, g3, g4, g5, ?_, hH.2.2, hk, Nat.le_refl _, g1⟩
      rw [ht, upS_eq]
  · rcases hH.1 with z | z
    · rcases p4 with ⟨y1, y2⟩ | ⟨x, y1, y2⟩
      · have hm0 : m ≤ 0 := by
          have := hH.2.2
          omega
        exact ⟨s, Nat.lt_succ_self s, by
          show (if s < s then hh s else m) = H'
          rw [if_neg (Nat.lt_irrefl s)]
          omega⟩
      · exact ⟨x, by omega, by
          show (if x < s then hh x else m) = H'
          rw [if_pos y1, y2, z]⟩
    · exact ⟨s, Nat.lt_succ_self s, by
        show (if s < s then hh s else m) = H'
        rw [if_neg (Nat.lt_irrefl s), z]⟩
  · exact (g6 k hk).1.trans p5
  · exact (g6 k hk).2.1.trans p6
  · rw [t0 _ (by omega) (by omega)]
    exact p7
  · rw [t0 _ (by omega) (by omega)]
    exact p8
  · obtain ⟨a1, a2⟩ := p9 x (by omega) h2
    exact ⟨(g7 _ (by omega) (fun _ => by omega)).trans a1, by rw [t0 _ (by omega) (by omega)]; exact a2⟩
  · by_cases hx : x < Nc
    · exact NdX_gr (b := 7) (w := 36) hg hx (by omega) hs6 (fun q => e 7 q (by decide) (by decide)) (fun q => e 10 q (by decide) (by decide)) (fun q y1 y2 => t0 q (by omega) (by omega)) (p10 x h1 hx)
    · exact (hN x (by omega) h2).cg (fun _ _ _ _ => rfl) (fun q y1 y2 => t2 q (by omega))
/-- all sides stand: a NODE and its tree -/
theorem WyP.done {σ τ : xSt} {D k t Ns Nc H : Nat} (h : WyP σ τ D k t Ns Nc H) (hN : σ 10 t = (Ns : Int)) (h2 : 2 ≤ Ns) (h6 : Ns ≤ 6) (ht : (t : Int) < σ 7 1) : NdX σ τ 7 36 k ∧ Sub σ 7 36 (D + 1) k Nc (H + 1) := by
  obtain ⟨f, hh, p1, p2, p3, p4, p5, p6, p7, p8, p9, p10⟩ := h
  refine ⟨⟨p5.trans p7.symm, p6.trans p8.symm, fun s hs => ?_, fun s hs => ?_, Or.inr (Or.inr ⟨p5, by show 0 ≤ σ 38 k; omega, by show σ 38 k < σ 7 1; omega⟩)⟩, Or.inr ⟨p5, by show 0 ≤ σ 38 k; omega, by show σ 38 k < σ 7 1; omega, f, hh, p1, ?_, fun s hs => ?_, ?_⟩⟩
  · show σ 41 (6 * k + s) = _
    by_cases z : s < Ns
    · obtain ⟨a1, a2, a3, a4, a5, a6⟩ := p3 s z
      rw [a4, a5]
    · obtain ⟨a1, a2⟩ := p9 s (by omega) hs
      rw [a1, a2]
  · show (σ 37 k = 2 ∧ (s : Int) < σ 10 (σ 38 k).toNat) ∨ σ 41 (6 * k + s) = -1
    by_cases z : s < Ns
    · exact Or.inl ⟨p5, by rw [p6, Int.toNat_natCast, hN]; omega⟩
    · exact Or.inr (p9 s (by omega) hs).1
  · show f (σ 10 (σ 38 k).toNat).toNat = Nc
    rw [p6, Int.toNat_natCast, hN, Int.toNat_natCast, p2]
  · have hs : (s : Int) < σ 10 (σ 38 k).toNat := hs
    rw [p6, Int.toNat_natCast, hN] at hs
    obtain ⟨a1, a2, a3, a4, a5, a6, a7⟩ := p3 s (by omega)
    exact ⟨a1, a2, a3, a4, by omega⟩
  · show ∃ s : Nat, (s : Int) < σ 10 (σ 38 k).toNat ∧ hh s + 1 = H + 1
    rcases p4 with ⟨y1, -⟩ | ⟨x, y1, y2⟩
    · omega
    · exact ⟨x, by rw [p6, Int.toNat_natCast, hN]; omega, by rw [y2]⟩
/-- the NODE laid on both sides, the token stepped over -/
theorem lay_lock {σ0 τ0 : xSt} {d : Nat → Int} {n c i N sd : Nat} {fr : Int} {σ τ : xSt} (hR : WyR σ0 τ0 d n c i N σ τ) (hN : N < 80) (h0 : σ 2 6 ≠ 0) (h1 : σ 2 6 ≠ 1) (so wh : Int) (hfr : fr < (N : Int)) (hsd : sd < 6) :
    ∃ σ1 τa τ1, f_Tokens_step σ = some σ1 ∧ f_M_lays so wh τ = some ((N : Int), τa) ∧ f_M_go (upS τa 111 26 (N : Int)) = some τ1 ∧ σ1 36 1 = σ 36 1 ∧ τ1 111 26 = (N : Int) ∧ ∀ σ1' : xSt, (∀ a k, (a = 36 → k ≠ 1) → σ1' a k = σ1 a k) → ∃ σ2, f_Way_add 36 so wh fr (sd : Int) σ1' = some ((N : Int), σ2) ∧ WyR σ0 τ0 d n c (i + 1) (N + 1) σ2 τ1 ∧ GrX 36 N (N + 1) fr sd σ σ2 ∧ GrM N (N + 1) τ τ1 ∧ σ2 37 N = so ∧ σ2 38 N = wh ∧ (∀ s : Nat, s < 6 → σ2 41 (6 * N + s) = -1) ∧ τ1 115 (8 * N) = so ∧ τ1 115 (8 * N + 1) = wh ∧ (∀ s : Nat, s < 6 → τ1 115 (8 * N + 2 + s) = -1) ∧ σ2 36 1 = σ1' 36 1 := by
  obtain ⟨hL, h9, h10, kX, kM, hx, hm⟩ := hR
  obtain ⟨τa, a1, ⟨a2, a3⟩, a4, a5, a6, a7⟩ := m_laysG hm hN so wh
  have fb : ∀ a q, a ≠ 115 → (a = 111 → q ≠ 25 ∧ q ≠ 26) → (upS τa 111 26 (N : Int)) a q = τ a q := fun a q z1 z2 => by
    rw [upS_rd, if_neg (fun y => (z2 y.1).2 y.2), a7 a q z1 (fun y => (z2 y).1)]
  have hLb : LR d n 600 c i σ (upS τa 111 26 (N : Int)) := hL.cg (fun _ _ _ _ => rfl) (fun q z1 z2 => fb 111 q (by decide) (fun _ => by omega)) (fun q => fb 112 q (by decide) (fun z => absurd z (by decide)))
  obtain ⟨σ1, τ1, b1, b2, b3, b4, b5⟩ := hLb.go1 h0 h1
  have f115 : ∀ q, τ1 115 q = τa 115 q := fun q => by rw [b5 115 q (fun z => absurd z (by decide)), upS_ne (by decide)]
  refine ⟨σ1, τa, τ1, b1, a1, b2, b4 36 1 (fun z => absurd z (by decide)), by rw [b5 111 26 (fun _ => by decide), upS_eq], fun σ1' hσ => ?_⟩
  have e36 : σ1' 36 0 = (N : Int) := by rw [hσ 36 0 (fun _ => by decide), b4 36 0 (fun z => absurd z (by decide)), hx]
  obtain ⟨σ2, c1, c2, c3, c4, c5, c6, c7⟩ := x_waddG (w := 36) e36 hN so wh fr hsd hfr
  refine ⟨σ2, c1, ⟨?_, ?_, ?_, ?_, ?_, c2.1, ?_⟩, c2.cgl (fun a q z1 z2 => by rw [hσ a q (fun z => by omega), b4 a q (fun z => by omega)]), ⟨?_, fun q hq => by rw [f115, a3 q hq]⟩, c3, c4, c5, by rw [f115, a4], by rw [f115, a5], fun s hs => by rw [f115, a6 s hs], c6 1 (by decide)⟩
  · exact b3.cg (fun a k z1 z2 => by rw [c7 a k (by omega), hσ a k (fun z => by omega)]) (fun _ _ _ => rfl) (fun _ => rfl)
  · rw [c7 2 9 (by decide), hσ 2 9 (fun z => absurd z (by decide)), b4 2 9 (fun _ => by decide)]; exact h9
  · rw [b5 111 10 (fun _ => by decide), fb 111 10 (by decide) (fun _ => by decide)]; exact h10
  · exact ((kX.step b4).st (fun a q z1 z2 => hσ a q (fun z => absurd (show wyW a from ⟨by omega, by omega⟩) z2))).st (fun a q z1 z2 => c7 a q (by
      unfold wyW at z2
      omega))
  · exact (kM.st (fun a q z1 z2 => fb a q (fun y => z2 (Or.inl y)) (fun y => ⟨fun x => z2 (Or.inr ⟨y, Or.inl x⟩), fun x => z2 (Or.inr ⟨y, Or.inr x⟩)⟩))).go b5
  · rw [b5 111 25 (fun _ => by decide), upS_nk (by decide), a2]
  · rw [b5 111 25 (fun _ => by decide), upS_nk (by decide), a2]
