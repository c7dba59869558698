/-! NODES that grow alike on both sides -/
theorem xdiv_n {a b : Nat} (ha : a < 2147483648) : xdiv (a : Int) (b : Int) = ((a / b : Nat) : Int) := by
  unfold xdiv
  have h : a / b ≤ a := Nat.div_le_self a b
  rw [Int.tdiv_eq_ediv_of_nonneg (by omega), ← Int.natCast_ediv]
  exact w32_o (by omega) (by omega)
theorem xrem_n {a b : Nat} (ha : a < 2147483648) : xrem (a : Int) (b : Int) = ((a % b : Nat) : Int) := by
  have h1 : a / b * b ≤ a := Nat.div_mul_le_self a b
  have h2 : a / b * b + a % b = a := Nat.div_add_mod' a b
  have h3 : ((a / b : Nat) : Int) * (b : Int) = ((a / b * b : Nat) : Int) := (Int.natCast_mul _ _).symm
  have h4 : w32 (((a / b : Nat) : Int) * (b : Int)) = ((a / b * b : Nat) : Int) := by
    rw [h3]
    exact w32_o (by omega) (by omega)
  unfold xrem
  rw [xdiv_n ha, h4]
  exact (w32_o (by omega) (by omega)).trans (by omega)
def NdX (σ τ : xSt) (b w k : Nat) : Prop :=
  σ (w + 1) k = τ 115 (8 * k) ∧ σ (w + 2) k = τ 115 (8 * k + 1) ∧ (∀ s : Nat, s < 6 → σ (w + 5) (6 * k + s) = τ 115 (8 * k + 2 + s)) ∧
  (∀ s : Nat, s < 6 → (σ (w + 1) k = 2 ∧ (s : Int) < σ (b + 3) (σ (w + 2) k).toNat) ∨ σ (w + 5) (6 * k + s) = -1) ∧
  (σ (w + 1) k = 0 ∧ 0 ≤ σ (w + 2) k ∧ σ (w + 2) k < σ b 2 ∨ σ (w + 1) k = 1 ∧ σ (w + 2) k = -1 ∨ σ (w + 1) k = 2 ∧ 0 ≤ σ (w + 2) k ∧ σ (w + 2) k < σ b 1)
def GrX (w n n' : Nat) (fr : Int) (sd : Nat) (σ σ' : xSt) : Prop :=
  σ' w 0 = (n' : Int) ∧ n < n' ∧ n' ≤ 80 ∧ σ' (w + 3) n = fr ∧ σ' (w + 4) n = (sd : Int) ∧ (0 ≤ fr → σ' (w + 5) (6 * fr.toNat + sd) = (n : Int)) ∧
  (∀ k : Nat, k < n → σ' (w + 1) k = σ (w + 1) k ∧ σ' (w + 2) k = σ (w + 2) k ∧ σ' (w + 3) k = σ (w + 3) k ∧ σ' (w + 4) k = σ (w + 4) k) ∧
  ∀ q : Nat, q < 6 * n → (0 ≤ fr → q ≠ 6 * fr.toNat + sd) → σ' (w + 5) q = σ (w + 5) q
def GrM (n n' : Nat) (τ τ' : xSt) : Prop := τ' 111 25 = (n' : Int) ∧ ∀ q : Nat, q < 8 * n → τ' 115 q = τ 115 q
/-- what a tree's NODES are read by -/
theorem Sub_rng {σ σ' : xSt} {b w : Nat} (hb : ∀ k, σ' b k = σ b k) (hb3 : ∀ k, σ' (b + 3) k = σ (b + 3) k) (h36 : ∀ k : Nat, (k : Int) < σ b 1 → σ (b + 3) k ≤ 6) : ∀ d k e m : Nat,
    (∀ i : Nat, k ≤ i → i < e → σ' (w + 1) i = σ (w + 1) i ∧ σ' (w + 2) i = σ (w + 2) i ∧ ∀ s : Nat, s < 6 → σ' (w + 5) (6 * i + s) = σ (w + 5) (6 * i + s)) →
    (∀ i : Nat, k < i → i < e → σ' (w + 3) i = σ (w + 3) i ∧ σ' (w + 4) i = σ (w + 4) i) → Sub σ b w d k e m → Sub σ' b w d k e m := by
  intro d
  induction d with
  | zero =>
    intro k e m h1 h2 h
    have hk := (Sub_lt 0 k e m h).1
    obtain ⟨k1, k2, -⟩ := h1 k (Nat.le_refl k) hk
    unfold Sub at h ⊢
    rw [k1, k2, hb]
    exact h
  | succ d ih =>
    intro k e m h1 h2 h
    have hk := (Sub_lt (d + 1) k e m h).1
    obtain ⟨k1, k2, k5⟩ := h1 k (Nat.le_refl k) hk
    unfold Sub at h ⊢
    rw [k1, k2, hb, hb, hb3]
    rcases h with h | ⟨a1, a2, a3, f, hh, f0, fe, fs, fm⟩
    · exact Or.inl h
    · refine Or.inr ⟨a1, a2, a3, f, hh, f0, fe, fun s hs => ?_, fm⟩
      have h6 := h36 (σ (w + 2) k).toNat (by omega)
      have hin := sons_in (f := f) (N := σ (b + 3) (σ (w + 2) k).toNat) (k := k) (e := e) (fun s hs => (Sub_lt d _ _ _ (fs s hs).1).1) f0 fe hs
      have hlt := (Sub_lt d _ _ _ (fs s hs).1).1
      obtain ⟨g1, g2, g3, g4, g5⟩ := fs s hs
      obtain ⟨q3, q4⟩ := h2 (f s) (by omega) (by omega)
      rw [q3, q4, k5 s (by omega)]
      exact ⟨ih _ _ _ (fun i z1 z2 => h1 i (by omega) (by omega)) (fun i z1 z2 => h2 i (by omega) (by omega)) g1, g2, g3, g4, g5⟩
theorem Sub_leaf {σ : xSt} {b w k : Nat} (h : σ (w + 1) k = 0 ∧ 0 ≤ σ (w + 2) k ∧ σ (w + 2) k < σ b 2 ∨ σ (w + 1) k = 1 ∧ σ (w + 2) k = -1) : ∀ d : Nat, Sub σ b w d k (k + 1) 0 := by
  intro d
  cases d with
  | zero => exact ⟨rfl, rfl, h⟩
  | succ d => exact Or.inl ⟨rfl, rfl, h⟩
theorem Sub_two {σ : xSt} {b w d k e1 e2 m1 m2 : Nat} (h1 : σ (w + 1) k = 2) (h2 : 0 ≤ σ (w + 2) k) (h3 : σ (w + 2) k < σ b 1) (h4 : σ (b + 3) (σ (w + 2) k).toNat = 2) (s1 : Sub σ b w d (k + 1) e1 m1) (s2 : Sub σ b w d e1 e2 m2)
    (p1 : σ (w + 3) (k + 1) = (k : Int)) (p2 : σ (w + 4) (k + 1) = ((0 : Nat) : Int)) (p3 : σ (w + 5) (6 * k + 0) = ((k + 1 : Nat) : Int)) (q1 : σ (w + 3) e1 = (k : Int)) (q2 : σ (w + 4) e1 = ((1 : Nat) : Int)) (q3 : σ (w + 5) (6 * k + 1) = (e1 : Int)) : Sub σ b w (d + 1) k e2 (max m1 m2 + 1) := by
  refine Or.inr ⟨h1, h2, h3, fun i => if i = 0 then k + 1 else if i = 1 then e1 else e2, fun i => if i = 0 then m1 else m2, rfl, ?_, fun s hs => ?_, ?_⟩
  · rw [h4]
    rfl
  · rw [h4] at hs
    have hs2 : s = 0 ∨ s = 1 := by omega
    rcases hs2 with rfl | rfl
    · exact ⟨s1, p1, p2, p3, by have := Nat.le_max_left m1 m2; show m1 + 1 ≤ _; omega⟩
    · exact ⟨s2, q1, q2, q3, by have := Nat.le_max_right m1 m2; show m2 + 1 ≤ _; omega⟩
  · rw [h4]
    by_cases hm : m2 ≤ m1
    · exact ⟨0, by decide, by show m1 + 1 = _; rw [Nat.max_eq_left hm]⟩
    · exact ⟨1, by decide, by show m2 + 1 = _; rw [Nat.max_eq_right (by omega)]⟩
theorem NdX_keep {σ τ σ' τ' : xSt} {b w k : Nat} (hb : ∀ k, σ' b k = σ b k) (hb3 : ∀ k, σ' (b + 3) k = σ (b + 3) k) (h1 : σ' (w + 1) k = σ (w + 1) k) (h2 : σ' (w + 2) k = σ (w + 2) k) (h5 : ∀ s : Nat, s < 6 → σ' (w + 5) (6 * k + s) = σ (w + 5) (6 * k + s)) (hm : ∀ q : Nat, 8 * k ≤ q → q < 8 * k + 8 → τ' 115 q = τ 115 q) (h : NdX σ τ b w k) : NdX σ' τ' b w k := by
  obtain ⟨a1, a2, a3, a4, a5⟩ := h
  unfold NdX
  rw [h1, h2, hb, hb, hb3, hm (8 * k) (by omega) (by omega), hm (8 * k + 1) (by omega) (by omega)]
  refine ⟨a1, a2, fun s hs => ?_, fun s hs => ?_, a5⟩
  · rw [h5 s hs, hm _ (by omega) (by omega)]
    exact a3 s hs
  · rw [h5 s hs]
    exact a4 s hs
/-- an END or AGAIN -/
theorem leaf_lock {σ τ : xSt} {n l sd : Nat} {fr : Int} (hn : σ 16 0 = (n : Int)) (hm : τ 111 25 = (n : Int)) (h80 : n < 80) (hl : l < 3) (hfr : fr < (n : Int)) (hsd : sd < 6) (he : 2 ≤ σ 7 2) (D : Nat) :
    ∃ σ' τ', f_Best_buildLeaf fr (sd : Int) (l : Int) σ = some σ' ∧ g_M_laySide (D + 1) (l : Int) τ = some ((n : Int), τ') ∧ GrX 16 n (n + 1) fr sd σ σ' ∧ GrM n (n + 1) τ τ' ∧ NdX σ' τ' 7 16 n ∧ ∀ d, Sub σ' 7 16 d n (n + 1) 0 := by
  have hd : ∀ x : Int, g_M_laySide (D + 1) x τ = f0_M_laySide (g_M_laySide D) x τ := fun x => rfl
  by_cases h2 : l = 2
  · subst h2
    obtain ⟨σ', a1, a2, a3, a4, a5, a6, a7, a8, a9, a10, a11, a12⟩ := x_wadd hn h80 1 (-1) fr hsd hfr
    obtain ⟨τ', b1, b2, b3, b4, b5, b6, b7⟩ := m_lays hm h80 1 (-1)
    refine ⟨σ', τ', ?_, ?_, ⟨a2, by omega, by omega, a5, a6, a8, fun k hk => a9 k (by omega), fun q h1 h2 => a10 q (by omega) h2⟩, ⟨b2, fun q hq => b6 q (by omega)⟩, ⟨by rw [a3, b3], by rw [a4, b4], fun s hs => by rw [a7 s hs, b5 s hs], fun s hs => Or.inr (a7 s hs), Or.inr (Or.inl ⟨a3, a4⟩)⟩, Sub_leaf (Or.inr ⟨a3, a4⟩)⟩
    · unfold f_Best_buildLeaf
      rw [if_pos (by omega), a1, xbW_s]
    · rw [hd]
      unfold f0_M_laySide
      rw [if_neg (by omega), if_pos (by omega), b1, xbW_s]
  · obtain ⟨σ', a1, a2, a3, a4, a5, a6, a7, a8, a9, a10, a11, a12⟩ := x_wadd hn h80 0 (l : Int) fr hsd hfr
    obtain ⟨τ', b1, b2, b3, b4, b5, b6, b7⟩ := m_lays hm h80 0 (l : Int)
    have k72 : σ' 7 2 = σ 7 2 := a12 7 2 (by omega)
    have lf : σ' (16 + 1) n = 0 ∧ 0 ≤ σ' (16 + 2) n ∧ σ' (16 + 2) n < σ' 7 2 := ⟨a3, by rw [a4]; omega, by rw [a4, k72]; omega⟩
    refine ⟨σ', τ', ?_, ?_, ⟨a2, by omega, by omega, a5, a6, a8, fun k hk => a9 k (by omega), fun q h1 h2 => a10 q (by omega) h2⟩, ⟨b2, fun q hq => b6 q (by omega)⟩, ⟨by rw [a3, b3], by rw [a4, b4], fun s hs => by rw [a7 s hs, b5 s hs], fun s hs => Or.inr (a7 s hs), Or.inl lf⟩, Sub_leaf (Or.inl lf)⟩
    · unfold f_Best_buildLeaf
      rw [if_neg (by omega), a1, xbW_s]
    · rw [hd]
      unfold f0_M_laySide
      rw [if_pos (by omega), b1, xbW_s]
/-- a coin with two of these -/
theorem coin_lock {σ τ : xSt} {n c h sd : Nat} {fr : Int} (hn : σ 16 0 = (n : Int)) (hm : τ 111 25 = (n : Int)) (h80 : n + 3 ≤ 80) (hc : c < 27) (hh : h < 27) (hin : h % 9 = c % 9) (h135 : τ 135 (h / 9) = ((c / 9 : Nat) : Int)) (hcn : CnR σ 7 ((c / 9 : Nat) : Int)) (hfr : fr < (n : Int)) (hsd : sd < 6) (he : 2 ≤ σ 7 2) (h71 : σ 7 1 ≤ 3) (h36 : ∀ k : Nat, (k : Int) < σ 7 1 → σ 10 k ≤ 6) (D : Nat) :
    ∃ σ' τ', f_Best_buildSide fr (sd : Int) ((c + 3 : Nat) : Int) σ = some σ' ∧ g_M_laySide (D + 2) ((h + 3 : Nat) : Int) τ = some ((n : Int), τ') ∧ GrX 16 n (n + 3) fr sd σ σ' ∧ GrM n (n + 3) τ τ' ∧ (∀ k : Nat, n ≤ k → k < n + 3 → NdX σ' τ' 7 16 k) ∧ ∀ d, Sub σ' 7 16 (d + 1) n (n + 3) 1 := by
  have hd : ∀ x : Int, g_M_laySide (D + 2) x τ = f0_M_laySide (g_M_laySide (D + 1)) x τ := fun x => rfl
  obtain ⟨c1, c2, c3⟩ := hcn
  rw [Int.toNat_natCast] at c3
  have hw3 : ∀ x : Nat, x < 27 → w32 (((x + 3 : Nat) : Int) - 3) = (x : Int) := fun x hx => (w32_o (by omega) (by omega)).trans (by omega)
  have hi : c % 9 < 9 := Nat.mod_lt _ (by decide)
  have l1 : c % 9 / 3 < 3 := by omega
  have l2 : c % 9 % 3 < 3 := by omega
  obtain ⟨σ1, a1, a2, a3, a4, a5, a6, a7, a8, a9, a10, a11, a12⟩ := x_wadd hn (by omega) 2 ((c / 9 : Nat) : Int) fr hsd hfr
  obtain ⟨τ1, b1, b2, b3, b4, b5, b6, b7⟩ := m_lays hm (by omega) 2 ((c / 9 : Nat) : Int)
  obtain ⟨σ2, τ2, d1, d2, dX, dM, d5, d6⟩ := leaf_lock (σ := σ1) (τ := τ1) (n := n + 1) (l := c % 9 / 3) (sd := 0) (fr := (n : Int)) a2 b2 (by omega) l1 (by omega) (by decide) (by rw [a12 7 2 (by omega)]; exact he) D
  have m1 : (upS τ2 115 (8 * n + 2) ((n + 1 : Nat) : Int)) 111 25 = ((n + 2 : Nat) : Int) := by rw [upS_rd, if_neg (by omega)]; exact dM.1
  have F12 : Fr s_Best_buildLeaf σ1 σ2 := fr_Best_buildLeaf d1
  have k71 : ∀ k, σ2 7 k = σ 7 k := fun k => (F12 7 k rfl).trans (a12 7 k (by omega))
  have k101 : ∀ k, σ2 10 k = σ 10 k := fun k => (F12 10 k rfl).trans (a12 10 k (by omega))
  obtain ⟨σ3, τ3, e1, e2, eX, eM, e5, e6⟩ := leaf_lock (σ := σ2) (τ := upS τ2 115 (8 * n + 2) ((n + 1 : Nat) : Int)) (n := n + 2) (l := c % 9 % 3) (sd := 1) (fr := (n : Int)) dX.1 m1 (by omega) l2 (by omega) (by decide) (by rw [k71 2]; exact he) D
  have F23 : Fr s_Best_buildLeaf σ2 σ3 := fr_Best_buildLeaf e1
  have k7 : ∀ k, σ3 7 k = σ 7 k := fun k => (F23 7 k rfl).trans (k71 k)
  have k10 : ∀ k, σ3 10 k = σ 10 k := fun k => (F23 10 k rfl).trans (k101 k)
  obtain ⟨-, -, -, x3, x4, x5, x6, x7⟩ := dX
  obtain ⟨y0, -, -, y3, y4, y5, y6, y7⟩ := eX
  have x5 := x5 (by omega)
  have y5 := y5 (by omega)
  rw [Int.toNat_natCast] at x5 y5 x7 y7
  -- the class's NODES at the end
  have s17 : σ3 (16 + 1) n = 2 := by rw [(y6 n (by omega)).1, (x6 n (by omega)).1, a3]
  have s18 : σ3 (16 + 2) n = ((c / 9 : Nat) : Int) := by rw [(y6 n (by omega)).2.1, (x6 n (by omega)).2.1, a4]
  have s10 : σ3 (7 + 3) (c / 9) = 2 := (k10 _).trans c3
  have s210 : σ3 (16 + 5) (6 * n + 0) = ((n + 1 : Nat) : Int) := by rw [y7 _ (by omega) (by omega)]; exact x5
  have s211 : σ3 (16 + 5) (6 * n + 1) = ((n + 2 : Nat) : Int) := y5
  have s21 : ∀ s : Nat, 2 ≤ s → s < 6 → σ3 (16 + 5) (6 * n + s) = -1 := fun s h1 h2 => by rw [y7 _ (by omega) (by omega), x7 _ (by omega) (by omega)]; exact a7 s h2
  -- the model's
  have t0 : ∀ q : Nat, q < 8 * n + 8 → q ≠ 8 * n + 2 → q ≠ 8 * n + 3 → (upS τ3 115 (8 * n + 3) ((n + 2 : Nat) : Int)) 115 q = τ1 115 q := fun q h1 h2 h3 => by
    rw [upS_rd, if_neg (by omega), eM.2 q (by omega), upS_rd, if_neg (by omega), dM.2 q (by omega)]
  have t2 : (upS τ3 115 (8 * n + 3) ((n + 2 : Nat) : Int)) 115 (8 * n + 2) = ((n + 1 : Nat) : Int) := by
    rw [upS_rd, if_neg (by omega), eM.2 _ (by omega), upS_rd, if_pos ⟨rfl, rfl⟩]
  have t3 : (upS τ3 115 (8 * n + 3) ((n + 2 : Nat) : Int)) 115 (8 * n + 3) = ((n + 2 : Nat) : Int) := by
    rw [upS_rd, if_pos ⟨rfl, rfl⟩]
  have nd1 : NdX σ3 (upS τ3 115 (8 * n + 3) ((n + 2 : Nat) : Int)) 7 16 (n + 1) := by
    refine NdX_keep (fun k => F23 7 k rfl) (fun k => F23 10 k rfl) (y6 _ (by omega)).1 (y6 _ (by omega)).2.1 (fun s hs => y7 _ (by omega) (by omega)) (fun q h1 h2 => ?_) d5
    rw [upS_rd, if_neg (by omega), eM.2 q (by omega), upS_rd, if_neg (by omega)]
  have nd2 : NdX σ3 (upS τ3 115 (8 * n + 3) ((n + 2 : Nat) : Int)) 7 16 (n + 2) := by
    refine NdX_keep (fun k => rfl) (fun k => rfl) rfl rfl (fun s hs => rfl) (fun q h1 h2 => ?_) e5
    rw [upS_rd, if_neg (by omega)]
  have nd0 : NdX σ3 (upS τ3 115 (8 * n + 3) ((n + 2 : Nat) : Int)) 7 16 n := by
    refine ⟨by rw [s17, t0 _ (by omega) (by omega) (by omega), b3], by rw [s18, t0 _ (by omega) (by omega) (by omega), b4], fun s hs => ?_, fun s hs => ?_, Or.inr (Or.inr ⟨s17, by rw [s18]; omega, by rw [s18, k7]; exact c2⟩)⟩
    · by_cases h0 : s = 0
      · subst h0
        rw [s210]
        exact t2.symm
      · by_cases h1 : s = 1
        · subst h1
          rw [s211]
          exact t3.symm
        · rw [s21 s (by omega) hs, t0 _ (by omega) (by omega) (by omega), b5 s hs]
    · by_cases h2 : s < 2
      · refine Or.inl ⟨s17, ?_⟩
        rw [s18, Int.toNat_natCast, s10]
        omega
      · exact Or.inr (s21 s (by omega) hs)
  have sub1 : ∀ d, Sub σ3 7 16 d (n + 1) (n + 2) 0 := fun d => Sub_rng (fun k => F23 7 k rfl) (fun k => F23 10 k rfl) (fun k hk => by rw [k71] at hk; rw [k101]; exact h36 k hk) d _ _ _ (fun i h1 h2 => ⟨(y6 i (by omega)).1, (y6 i (by omega)).2.1, fun s hs => y7 _ (by omega) (by omega)⟩) (fun i h1 h2 => ⟨(y6 i (by omega)).2.2.1, (y6 i (by omega)).2.2.2⟩) (d6 d)
  refine ⟨σ3, upS τ3 115 (8 * n + 3) ((n + 2 : Nat) : Int), ?_, ?_, ⟨y0, by omega, by omega, ?_, ?_, fun z => ?_, fun k hk => ?_, fun q h1 h2 => ?_⟩, ⟨?_, fun q hq => ?_⟩, fun k h1 h2 => ?_, fun d => ?_⟩
  · unfold f_Best_buildSide f_Best_secondCoin f_Best_leafOn
    rw [if_neg (by omega), if_neg (by omega), hw3 c hc, show (9 : Int) = ((9 : Nat) : Int) from rfl, show (3 : Int) = ((3 : Nat) : Int) from rfl, xdiv_n (by omega), xbR_s, a1, xbW_s, xrem_n (by omega), xlet_s, if_pos rfl, xdiv_n (by omega), xbR_s]
    rw [c0n] at d1
    rw [d1, xbR_s, if_neg (by decide), xrem_n (by omega), xlet_s, xbR_s]
    have e1' : f_Best_buildLeaf (n : Int) 1 ((c % 9 % 3 : Nat) : Int) σ2 = some σ3 := e1
    rw [e1', xbR_s]
  · rw [hd]
    unfold f0_M_laySide
    rw [if_neg (by omega), if_neg (by omega), hw3 h hh, show (9 : Int) = ((9 : Nat) : Int) from rfl, show (3 : Int) = ((3 : Nat) : Int) from rfl, xdiv_n (by omega), if_pos (by omega), Int.toNat_natCast, h135, b1, xbW_s, xrem_n (by omega), hin, xlet_s, xdiv_n (by omega), d2, xbW_s]
    have g1 : w32 (8 * (n : Int)) = ((8 * n : Nat) : Int) := (w32_o (by omega) (by omega)).trans (by omega)
    have g2 : w32 (((8 * n : Nat) : Int) + 2) = ((8 * n + 2 : Nat) : Int) := w32_n2 (by omega)
    have g3 : w32 (((8 * n : Nat) : Int) + ((3 : Nat) : Int)) = ((8 * n + 3 : Nat) : Int) := w32_nn (by omega)
    have q2 : 0 ≤ ((8 * n + 2 : Nat) : Int) ∧ ((8 * n + 2 : Nat) : Int) < 640 := by omega
    have q3 : 0 ≤ ((8 * n + 3 : Nat) : Int) ∧ ((8 * n + 3 : Nat) : Int) < 640 := by omega
    rw [g1, g2, if_pos q2, Int.toNat_natCast, xlet_s, xrem_n (by omega), e2, xbW_s, g3, if_pos q3, Int.toNat_natCast, xlet_s]
  · rw [(y6 n (by omega)).2.2.1, (x6 n (by omega)).2.2.1, a5]
  · rw [(y6 n (by omega)).2.2.2, (x6 n (by omega)).2.2.2, a6]
  · rw [y7 _ (by omega) (by omega), x7 _ (by omega) (by omega)]
    exact a8 z
  · obtain ⟨u1, u2, u3, u4⟩ := y6 k (by omega)
    obtain ⟨v1, v2, v3, v4⟩ := x6 k (by omega)
    obtain ⟨w1, w2, w3, w4⟩ := a9 k (by omega)
    exact ⟨by rw [u1, v1, w1], by rw [u2, v2, w2], by rw [u3, v3, w3], by rw [u4, v4, w4]⟩
  · rw [y7 _ (by omega) (by omega), x7 _ (by omega) (by omega)]
    exact a10 q (by omega) h2
  · rw [upS_rd, if_neg (by omega)]
    exact eM.1
  · rw [t0 q (by omega) (by omega) (by omega), b6 q (by omega)]
  · have hk : k = n ∨ k = n + 1 ∨ k = n + 2 := by omega
    rcases hk with rfl | rfl | rfl
    · exact nd0
    · exact nd1
    · exact nd2
  · exact Sub_two (m1 := 0) (m2 := 0) s17 (by rw [s18]; omega) (by rw [s18, k7]; exact c2) (by rw [s18, Int.toNat_natCast]; exact s10) (sub1 d) (e6 d) (by rw [(y6 _ (by omega)).2.2.1]; exact x3) (by rw [(y6 _ (by omega)).2.2.2]; exact x4) s210 y3 y4 s211
