/-! NODES that grow alike on both sides -/
theorem xdiv_n {a b : Nat} (ha : a < 2147483648) : xdiv (a : Int) (b : Int) = ((a / b : Nat) : Int) := by
  unfold xdiv
  have h : a / b ≤ a := Nat.div_le_self a b
  rw [Int.tdiv_eq_ediv_of_nonneg (by omega), ← Int.natCast_ediv]
  generalize a / b = q at h
  exact w32_o (by omega) (by omega)
theorem w32_8n {n : Nat} (h : n < 100000) : w32 (8 * (n : Int)) = ((8 * n : Nat) : Int) := (w32_o (by omega) (by omega)).trans (by omega)
theorem xrem_n {a b : Nat} (ha : a < 2147483648) : xrem (a : Int) (b : Int) = ((a % b : Nat) : Int) := by
  have h1 : a / b * b ≤ a := Nat.div_mul_le_self a b
  have h2 : a / b * b + a % b = a := Nat.div_add_mod' a b
  have h3 : ((a / b : Nat) : Int) * (b : Int) = ((a / b * b : Nat) : Int) := (Int.natCast_mul _ _).symm
  have h4 : w32 (((a / b : Nat) : Int) * (b : Int)) = ((a / b * b : Nat) : Int) := by
    rw [h3]
    generalize a / b * b = q at h1
    clear h2 h3
    exact w32_o (by omega) (by omega)
  unfold xrem
  rw [xdiv_n ha, h4]
  clear h4 h3
  generalize a / b * b = q at h1 h2
  generalize a % b = r at h2
  exact (w32_o (by omega) (by omega)).trans (by omega)
def NdX (σ τ : xSt) (b w k : Nat) : Prop :=
  σ (w + 1) k = τ 115 (8 * k) ∧ σ (w + 2) k = τ 115 (8 * k + 1) ∧ (∀ s : Nat, s < 6 → σ (w + 5) (6 * k + s) = τ 115 (8 * k + 2 + s)) ∧
  (∀ s : Nat, s < 6 → (σ (w + 1) k = 2 ∧ (s : Int) < σ (b + 3) (σ (w + 2) k).toNat) ∨ σ (w + 5) (6 * k + s) = -1) ∧
  (σ (w + 1) k = 0 ∧ 0 ≤ σ (w + 2) k ∧ σ (w + 2) k < σ b 2 ∨ σ (w + 1) k = 1 ∧ σ (w + 2) k = -1 ∨ σ (w + 1) k = 2 ∧ 0 ≤ σ (w + 2) k ∧ σ (w + 2) k < σ b 1)
def GrX (w n n' : Nat) (fr : Int) (sd : Nat) (σ σ' : xSt) : Prop :=
  σ' w 0 = (n' : Int) ∧ n < n' ∧ n' ≤ 80 ∧ σ' (w + 3) n = fr ∧ σ' (w + 4) n = (sd : Int) ∧ (0 ≤ fr → σ' (w + 5) (6 * fr.toNat + sd) = (n : Int)) ∧
  (∀ k : Nat, k < n → σ' (w + 1) k = σ (w + 1) k ∧ σ' (w + 2) k = σ (w + 2) k ∧ σ' (w + 3) k = σ (w + 3) k ∧ σ' (w + 4) k = σ (w + 4) k) ∧
  ∀ q : Nat, q < 6 * n → (0 ≤ fr → q ≠ 6 * fr.toNat + sd) → σ' (w + 5) q = σ (w + 5) q
def GrM (n n' : Nat) (τ τ' : xSt) : Prop := τ' 111 25 = (n' : Int) ∧ ∀ q : Nat, q < 8 * n → τ' 115 q = τ 115 q
/-- what a tree's NODES are read by -/
theorem Sub_rng {σ σ' : xSt} {b w : Nat} (hb : ∀ k, σ' b k = σ b k) (hb3 : ∀ k, σ' (b + 3) k = σ (b + 3) k) (h36 : ∀ k : Nat, (k : Int) < σ b 1 → σ (b + 3) k ≤ 6) : ∀ d k e m : Nat,
    (∀ i : Nat, k ≤ i → i < e → σ' (w + 1) i = σ (w + 1) i ∧ σ' (w + 2) i = σ (w + 2) i ∧ ∀ s : Nat, s < 6 → σ' (w + 5) (6 * i + s) = σ (w + 5) (6 * i + s)) →
    (∀ i : Nat, k < i → i < e → σ' (w + 3) i = σ (w + 3) i ∧ σ' (w + 4) i = σ (w + 4) i) → Sub σ b w d k e m → Sub σ' b w d k e m := by
  intro d
  induction d with
  | zero =>
    intro k e m h1 h2 h
    have hk := (Sub_lt 0 k e m h).1
    obtain ⟨k1, k2, -⟩ := h1 k (Nat.le_refl k) hk
    unfold Sub at h ⊢
    rw [k1, k2, hb]
    exact h
  | succ d ih =>
    intro k e m h1 h2 h
    have hk := (Sub_lt (d + 1) k e m h).1
    obtain ⟨k1, k2, k5⟩ := h1 k (Nat.le_refl k) hk
    unfold Sub at h ⊢
    rw [k1, k2, hb, hb, hb3]
    rcases h with h | ⟨a1, a2, a3, f, hh, f0, fe, fs, fm⟩
    · exact Or.inl h
    · refine Or.inr ⟨a1, a2, a3, f, hh, f0, fe, fun s hs => ?_, fm⟩
      have h6 := h36 (σ (w + 2) k).toNat (by omega)
      have hin := sons_in (f := f) (N := σ (b + 3) (σ (w + 2) k).toNat) (k := k) (e := e) (fun s hs => (Sub_lt d _ _ _ (fs s hs).1).1) f0 fe hs
      have hlt := (Sub_lt d _ _ _ (fs s hs).1).1
      obtain ⟨g1, g2, g3, g4, g5⟩ := fs s hs
      obtain ⟨q3, q4⟩ := h2 (f s) (by omega) (by omega)
      rw [q3, q4, k5 s (by omega)]
      exact ⟨ih _ _ _ (fun i z1 z2 => h1 i (by omega) (by omega)) (fun i z1 z2 => h2 i (by omega) (by omega)) g1, g2, g3, g4, g5⟩
theorem Sub_leaf {σ : xSt} {b w k : Nat} (h : σ (w + 1) k = 0 ∧ 0 ≤ σ (w + 2) k ∧ σ (w + 2) k < σ b 2 ∨ σ (w + 1) k = 1 ∧ σ (w + 2) k = -1) : ∀ d : Nat, Sub σ b w d k (k + 1) 0 := by
  intro d
  cases d with
  | zero => exact ⟨rfl, rfl, h⟩
  | succ d => exact Or.inl ⟨rfl, rfl, h⟩
theorem Sub_two {σ : xSt} {b w d k e1 e2 m1 m2 : Nat} (h1 : σ (w + 1) k = 2) (h2 : 0 ≤ σ (w + 2) k) (h3 : σ (w + 2) k < σ b 1) (h4 : σ (b + 3) (σ (w + 2) k).toNat = 2) (s1 : Sub σ b w d (k + 1) e1 m1) (s2 : Sub σ b w d e1 e2 m2)
    (p1 : σ (w + 3) (k + 1) = (k : Int)) (p2 : σ (w + 4) (k + 1) = ((0 : Nat) : Int)) (p3 : σ (w + 5) (6 * k + 0) = ((k + 1 : Nat) : Int)) (q1 : σ (w + 3) e1 = (k : Int)) (q2 : σ (w + 4) e1 = ((1 : Nat) : Int)) (q3 : σ (w + 5) (6 * k + 1) = (e1 : Int)) : Sub σ b w (d + 1) k e2 (max m1 m2 + 1) := by
  refine Or.inr ⟨h1, h2, h3, fun i => if i = 0 then k + 1 else if i = 1 then e1 else e2, fun i => if i = 0 then m1 else m2, rfl, ?_, fun s hs => ?_, ?_⟩
  · rw [h4]
    rfl
  · rw [h4] at hs
    have hs2 : s = 0 ∨ s = 1 := by omega
    rcases hs2 with rfl | rfl
    · exact ⟨s1, p1, p2, p3, by have := Nat.le_max_left m1 m2; show m1 + 1 ≤ _; omega⟩
    · exact ⟨s2, q1, q2, q3, by have := Nat.le_max_right m1 m2; show m2 + 1 ≤ _; omega⟩
  · rw [h4]
    by_cases hm : m2 ≤ m1
    · exact ⟨0, by decide, by show m1 + 1 = _; rw [Nat.max_eq_left hm]⟩
    · exact ⟨1, by decide, by show m2 + 1 = _; rw [Nat.max_eq_right (by omega)]⟩
theorem NdX_keep {σ τ σ' τ' : xSt} {b w k : Nat} (hb : ∀ k, σ' b k = σ b k) (hb3 : ∀ k, σ' (b + 3) k = σ (b + 3) k) (h1 : σ' (w + 1) k = σ (w + 1) k) (h2 : σ' (w + 2) k = σ (w + 2) k) (h5 : ∀ s : Nat, s < 6 → σ' (w + 5) (6 * k + s) = σ (w + 5) (6 * k + s)) (hm : ∀ q : Nat, 8 * k ≤ q → q < 8 * k + 8 → τ' 115 q = τ 115 q) (h : NdX σ τ b w k) : NdX σ' τ' b w k := by
  obtain ⟨a1, a2, a3, a4, a5⟩ := h
  unfold NdX
  rw [h1, h2, hb, hb, hb3, hm (8 * k) (by omega) (by omega), hm (8 * k + 1) (by omega) (by omega)]
  refine ⟨a1, a2, fun s hs => ?_, fun s hs => ?_, a5⟩
  · rw [h5 s hs, hm _ (by omega) (by omega)]
    exact a3 s hs
  · rw [h5 s hs]
    exact a4 s hs
theorem GrX.cat {w n n1 n2 fr2 sd sd2 : Nat} {fr : Int} {σ0 σ1 σ2 : xSt} (h1 : GrX w n n1 fr sd σ0 σ1) (h2 : GrX w n1 n2 (fr2 : Int) sd2 σ1 σ2) (hf : n ≤ fr2) (hfr : fr < (n : Int)) (hsd : sd < 6) : GrX w n n2 fr sd σ0 σ2 := by
  obtain ⟨-, b1, -, b3, b4, b5, b6, b7⟩ := h1
  obtain ⟨c0, c1, c2, -, -, -, c6, c7⟩ := h2
  rw [Int.toNat_natCast] at c7
  obtain ⟨-, -, k3, k4⟩ := c6 n b1
  refine ⟨c0, by omega, c2, by rw [k3]; exact b3, by rw [k4]; exact b4, fun z => ?_, fun k hk => ?_, fun q h1 h2 => ?_⟩
  · rw [c7 _ (by omega) (fun _ => by omega)]
    exact b5 z
  · obtain ⟨u1, u2, u3, u4⟩ := c6 k (by omega)
    obtain ⟨v1, v2, v3, v4⟩ := b6 k hk
    exact ⟨u1.trans v1, u2.trans v2, u3.trans v3, u4.trans v4⟩
  · rw [c7 q (by omega) (fun _ => by omega)]
    exact b7 q h1 h2
theorem NdX_gr {σ σ' τ τ' : xSt} {b w n1 n2 k sd2 : Nat} {fr2 : Nat} (h : GrX w n1 n2 (fr2 : Int) sd2 σ σ') (hk : k < n1) (hne : k ≠ fr2) (hsd : sd2 < 6) (hb : ∀ k, σ' b k = σ b k) (hb3 : ∀ k, σ' (b + 3) k = σ (b + 3) k) (hm : ∀ q : Nat, 8 * k ≤ q → q < 8 * k + 8 → τ' 115 q = τ 115 q) (hd : NdX σ τ b w k) : NdX σ' τ' b w k := by
  obtain ⟨-, -, -, -, -, -, c6, c7⟩ := h
  rw [Int.toNat_natCast] at c7
  obtain ⟨k1, k2, -, -⟩ := c6 k hk
  exact NdX_keep hb hb3 k1 k2 (fun s hs => c7 _ (by omega) (fun _ => by omega)) hm hd
theorem Sub_gr {σ σ' : xSt} {b w n1 n2 k e d m sd2 : Nat} {fr2 : Nat} (h : GrX w n1 n2 (fr2 : Int) sd2 σ σ') (he : e ≤ n1) (hne : fr2 < k) (hsd : sd2 < 6) (hb : ∀ k, σ' b k = σ b k) (hb3 : ∀ k, σ' (b + 3) k = σ (b + 3) k) (h36 : ∀ k : Nat, (k : Int) < σ b 1 → σ (b + 3) k ≤ 6) (hd : Sub σ b w d k e m) : Sub σ' b w d k e m := by
  obtain ⟨-, -, -, -, -, -, c6, c7⟩ := h
  rw [Int.toNat_natCast] at c7
  exact Sub_rng hb hb3 h36 d k e m (fun i h1 h2 => ⟨(c6 i (by omega)).1, (c6 i (by omega)).2.1, fun s hs => c7 _ (by omega) (fun _ => by omega)⟩) (fun i h1 h2 => ⟨(c6 i (by omega)).2.2.1, (c6 i (by omega)).2.2.2⟩) hd
/-- the root of two sons: the class's side -/
theorem two_root {w n e1 e2 : Nat} {σ1 σ2 σ3 : xSt} {ci : Int} (h1 : GrX w (n + 1) e1 (n : Int) 0 σ1 σ2) (h2 : GrX w e1 e2 (n : Int) 1 σ2 σ3) (a17 : σ1 (w + 1) n = 2) (a18 : σ1 (w + 2) n = ci) (a21 : ∀ s : Nat, s < 6 → σ1 (w + 5) (6 * n + s) = -1) :
    σ3 (w + 1) n = 2 ∧ σ3 (w + 2) n = ci ∧ σ3 (w + 5) (6 * n + 0) = ((n + 1 : Nat) : Int) ∧ σ3 (w + 5) (6 * n + 1) = (e1 : Int) ∧ (∀ s : Nat, 2 ≤ s → s < 6 → σ3 (w + 5) (6 * n + s) = -1) ∧ σ3 (w + 3) (n + 1) = (n : Int) ∧ σ3 (w + 4) (n + 1) = ((0 : Nat) : Int) ∧ σ3 (w + 3) e1 = (n : Int) ∧ σ3 (w + 4) e1 = ((1 : Nat) : Int) := by
  obtain ⟨-, b1, -, b3, b4, b5, b6, b7⟩ := h1
  obtain ⟨-, c1, -, c3, c4, c5, c6, c7⟩ := h2
  have hn : n < e1 := by omega
  have b5 := b5 (by omega)
  have c5 := c5 (by omega)
  rw [Int.toNat_natCast] at b5 b7 c5 c7
  obtain ⟨u1, u2, -, -⟩ := c6 n hn
  obtain ⟨v1, v2, -, -⟩ := b6 n (by omega)
  obtain ⟨-, -, w3, w4⟩ := c6 (n + 1) b1
  refine ⟨by rw [u1, v1]; exact a17, by rw [u2, v2]; exact a18, ?_, c5, fun s s1 s2 => ?_, by rw [w3]; exact b3, by rw [w4]; exact b4, c3, c4⟩
  · rw [c7 _ (by omega) (fun _ => by omega)]
    exact b5
  · rw [c7 _ (by omega) (fun _ => by omega), b7 _ (by omega) (fun _ => by omega)]
    exact a21 s s2
/-- the model's side -/
theorem two_rootM {n e1 e2 : Nat} {τ1 τ2 τ3 : xSt} {ci : Int} (hn : n < e1) (h1 : GrM (n + 1) e1 τ1 τ2) (h2 : GrM e1 e2 (upS τ2 115 (8 * n + 2) ((n + 1 : Nat) : Int)) τ3) (a0 : τ1 115 (8 * n) = 2) (a1 : τ1 115 (8 * n + 1) = ci) (a2 : ∀ s : Nat, s < 6 → τ1 115 (8 * n + 2 + s) = -1) :
    (upS τ3 115 (8 * n + 3) (e1 : Int)) 115 (8 * n) = 2 ∧ (upS τ3 115 (8 * n + 3) (e1 : Int)) 115 (8 * n + 1) = ci ∧ (upS τ3 115 (8 * n + 3) (e1 : Int)) 115 (8 * n + 2 + 0) = ((n + 1 : Nat) : Int) ∧ (upS τ3 115 (8 * n + 3) (e1 : Int)) 115 (8 * n + 2 + 1) = (e1 : Int) ∧ (∀ s : Nat, 2 ≤ s → s < 6 → (upS τ3 115 (8 * n + 3) (e1 : Int)) 115 (8 * n + 2 + s) = -1) ∧
    (∀ q : Nat, q < 8 * n → (upS τ3 115 (8 * n + 3) (e1 : Int)) 115 q = τ1 115 q) ∧ (∀ q : Nat, 8 * n + 8 ≤ q → q < 8 * e1 → (upS τ3 115 (8 * n + 3) (e1 : Int)) 115 q = τ2 115 q) ∧ ∀ q : Nat, 8 * n + 8 ≤ q → (upS τ3 115 (8 * n + 3) (e1 : Int)) 115 q = τ3 115 q := by
  obtain ⟨-, b2⟩ := h1
  obtain ⟨-, c2⟩ := h2
  have t0 : ∀ q : Nat, q < 8 * n + 8 → q ≠ 8 * n + 2 → q ≠ 8 * n + 3 → (upS τ3 115 (8 * n + 3) (e1 : Int)) 115 q = τ1 115 q := fun q h1 h2 h3 => by
    rw [upS_rd, if_neg (fun z => h3 z.2), c2 q (by omega), upS_rd, if_neg (fun z => h2 z.2), b2 q (by omega)]
  refine ⟨by rw [t0 _ (by omega) (by omega) (by omega)]; exact a0, by rw [t0 _ (by omega) (by omega) (by omega)]; exact a1, ?_, ?_, fun s s1 s2 => by rw [t0 _ (by omega) (by omega) (by omega)]; exact a2 s s2, fun q hq => t0 q (by omega) (by omega) (by omega), fun q q1 q2 => ?_, fun q q1 => ?_⟩
  · rw [upS_rd, if_neg (by omega), c2 _ (by omega), upS_rd, if_pos ⟨rfl, rfl⟩]
  · rw [upS_rd, if_pos ⟨rfl, rfl⟩]
  · rw [upS_rd, if_neg (by omega), c2 _ (by omega), upS_rd, if_neg (by omega)]
  · rw [upS_rd, if_neg (by omega)]
/-- the root as a NODE of both sides -/
theorem two_nd {b w n e1 : Nat} {σ τ : xSt} {ci : Int} (h0 : 0 ≤ ci) (h1 : ci < σ b 1) (h2 : σ (b + 3) ci.toNat = 2) (a1 : σ (w + 1) n = 2) (a2 : σ (w + 2) n = ci) (a3 : σ (w + 5) (6 * n + 0) = ((n + 1 : Nat) : Int)) (a4 : σ (w + 5) (6 * n + 1) = (e1 : Int)) (a5 : ∀ s : Nat, 2 ≤ s → s < 6 → σ (w + 5) (6 * n + s) = -1)
    (b1 : τ 115 (8 * n) = 2) (b2 : τ 115 (8 * n + 1) = ci) (b3 : τ 115 (8 * n + 2 + 0) = ((n + 1 : Nat) : Int)) (b4 : τ 115 (8 * n + 2 + 1) = (e1 : Int)) (b5 : ∀ s : Nat, 2 ≤ s → s < 6 → τ 115 (8 * n + 2 + s) = -1) : NdX σ τ b w n := by
  refine ⟨a1.trans b1.symm, a2.trans b2.symm, fun s hs => ?_, fun s hs => ?_, Or.inr (Or.inr ⟨a1, by rw [a2]; exact h0, by rw [a2]; exact h1⟩)⟩
  · by_cases z0 : s = 0
    · rw [z0, a3, b3]
    · by_cases z1 : s = 1
      · rw [z1, a4, b4]
      · rw [a5 s (by omega) hs, b5 s (by omega) hs]
  · by_cases z : s < 2
    · refine Or.inl ⟨a1, ?_⟩
      rw [a2, h2]
      omega
    · exact Or.inr (a5 s (by omega) hs)
theorem x_waddG {w n : Nat} {σ : xSt} (hn : σ w 0 = (n : Int)) (h80 : n < 80) (so wh fr : Int) {sd : Nat} (hsd : sd < 6) (hfr : fr < (n : Int)) : ∃ σ', f_Way_add w so wh fr (sd : Int) σ = some ((n : Int), σ') ∧ GrX w n (n + 1) fr sd σ σ' ∧ σ' (w + 1) n = so ∧ σ' (w + 2) n = wh ∧ (∀ s : Nat, s < 6 → σ' (w + 5) (6 * n + s) = -1) ∧ (∀ q : Nat, q ≠ 0 → σ' w q = σ w q) ∧ ∀ a q, (a < w ∨ w + 5 < a) → σ' a q = σ a q := by
  obtain ⟨σ', a1, a2, a3, a4, a5, a6, a7, a8, a9, a10, a11, a12⟩ := x_wadd hn h80 so wh fr hsd hfr
  exact ⟨σ', a1, ⟨a2, by omega, by omega, a5, a6, a8, fun k hk => a9 k (by omega), fun q h1 h2 => a10 q (by omega) h2⟩, a3, a4, a7, a11, a12⟩
theorem m_laysG {n : Nat} {σ : xSt} (hn : σ 111 25 = (n : Int)) (h80 : n < 80) (so wh : Int) : ∃ σ', f_M_lays so wh σ = some ((n : Int), σ') ∧ GrM n (n + 1) σ σ' ∧ σ' 115 (8 * n) = so ∧ σ' 115 (8 * n + 1) = wh ∧ (∀ s : Nat, s < 6 → σ' 115 (8 * n + 2 + s) = -1) ∧ ∀ a q, a ≠ 115 → (a = 111 → q ≠ 25) → σ' a q = σ a q := by
  obtain ⟨σ', a1, a2, a3, a4, a5, a6, a7⟩ := m_lays hn h80 so wh
  exact ⟨σ', a1, ⟨a2, fun q hq => a6 q (by omega)⟩, a3, a4, a5, a7⟩
/-- an END or AGAIN -/
theorem leaf_lock {σ τ : xSt} {n l sd : Nat} {fr : Int} (hn : σ 16 0 = (n : Int)) (hm : τ 111 25 = (n : Int)) (h80 : n < 80) (hl : l < 3) (hfr : fr < (n : Int)) (hsd : sd < 6) (he : 2 ≤ σ 7 2) (D : Nat) :
    ∃ σ' τ', f_Best_buildLeaf fr (sd : Int) (l : Int) σ = some σ' ∧ g_M_laySide (D + 1) (l : Int) τ = some ((n : Int), τ') ∧ GrX 16 n (n + 1) fr sd σ σ' ∧ GrM n (n + 1) τ τ' ∧ NdX σ' τ' 7 16 n ∧ ∀ d, Sub σ' 7 16 d n (n + 1) 0 := by
  have hd : ∀ x : Int, g_M_laySide (D + 1) x τ = f0_M_laySide (g_M_laySide D) x τ := fun x => rfl
  by_cases h2 : l = 2
  · subst h2
    obtain ⟨σ', a1, a2, a3, a4, a5, a6, a7, a8, a9, a10, a11, a12⟩ := x_wadd hn h80 1 (-1) fr hsd hfr
    obtain ⟨τ', b1, b2, b3, b4, b5, b6, b7⟩ := m_lays hm h80 1 (-1)
    refine ⟨σ', τ', ?_, ?_, ⟨a2, by omega, by omega, a5, a6, a8, fun k hk => a9 k (by omega), fun q h1 h2 => a10 q (by omega) h2⟩, ⟨b2, fun q hq => b6 q (by omega)⟩, ⟨by rw [a3, b3], by rw [a4, b4], fun s hs => by rw [a7 s hs, b5 s hs], fun s hs => Or.inr (a7 s hs), Or.inr (Or.inl ⟨a3, a4⟩)⟩, Sub_leaf (Or.inr ⟨a3, a4⟩)⟩
    · unfold f_Best_buildLeaf
      rw [if_pos (by omega), a1, xbW_s]
    · rw [hd]
      unfold f0_M_laySide
      rw [if_neg (by omega), if_pos (by omega), b1, xbW_s]
  · obtain ⟨σ', a1, a2, a3, a4, a5, a6, a7, a8, a9, a10, a11, a12⟩ := x_wadd hn h80 0 (l : Int) fr hsd hfr
    obtain ⟨τ', b1, b2, b3, b4, b5, b6, b7⟩ := m_lays hm h80 0 (l : Int)
    have k72 : σ' 7 2 = σ 7 2 := a12 7 2 (by omega)
    have lf : σ' (16 + 1) n = 0 ∧ 0 ≤ σ' (16 + 2) n ∧ σ' (16 + 2) n < σ' 7 2 := ⟨a3, by rw [a4]; omega, by rw [a4, k72]; omega⟩
    refine ⟨σ', τ', ?_, ?_, ⟨a2, by omega, by omega, a5, a6, a8, fun k hk => a9 k (by omega), fun q h1 h2 => a10 q (by omega) h2⟩, ⟨b2, fun q hq => b6 q (by omega)⟩, ⟨by rw [a3, b3], by rw [a4, b4], fun s hs => by rw [a7 s hs, b5 s hs], fun s hs => Or.inr (a7 s hs), Or.inl lf⟩, Sub_leaf (Or.inl lf)⟩
    · unfold f_Best_buildLeaf
      rw [if_neg (by omega), a1, xbW_s]
    · rw [hd]
      unfold f0_M_laySide
      rw [if_pos (by omega), b1, xbW_s]
/-- a coin's code -/
theorem coin_X {σ σ1 σ2 σ3 : xSt} {n c sd : Nat} {fr : Int} (hc : c < 27) (a1 : f_Way_add 16 2 ((c / 9 : Nat) : Int) fr (sd : Int) σ = some ((n : Int), σ1)) (d1 : f_Best_buildLeaf (n : Int) ((0 : Nat) : Int) ((c % 9 / 3 : Nat) : Int) σ1 = some σ2) (e1 : f_Best_buildLeaf (n : Int) ((1 : Nat) : Int) ((c % 9 % 3 : Nat) : Int) σ2 = some σ3) : f_Best_buildSide fr (sd : Int) ((c + 3 : Nat) : Int) σ = some σ3 := by
  have n3 : ¬ ((c + 3 : Nat) : Int) < 3 := by omega
  have o4 : c % 9 < 2147483648 := by omega
  have o5 : c < 2147483648 := by omega
  have h3 : w32 (((c + 3 : Nat) : Int) - 3) = (c : Int) := (w32_o (by omega) (by omega)).trans (by omega)
  have z1 : xdiv (c : Int) 9 = ((c / 9 : Nat) : Int) := xdiv_n (b := 9) o5
  have z2 : xrem (c : Int) 9 = ((c % 9 : Nat) : Int) := xrem_n (b := 9) o5
  have z3 : xdiv ((c % 9 : Nat) : Int) 3 = ((c % 9 / 3 : Nat) : Int) := xdiv_n (b := 3) o4
  have z4 : xrem ((c % 9 : Nat) : Int) 3 = ((c % 9 % 3 : Nat) : Int) := xrem_n (b := 3) o4
  have e1 : f_Best_buildLeaf (n : Int) 1 ((c % 9 % 3 : Nat) : Int) σ2 = some σ3 := e1
  rw [c0n] at d1
  unfold f_Best_buildSide f_Best_secondCoin f_Best_leafOn
  rw [if_neg n3, if_neg n3, h3, z1, xbR_s, a1, xbW_s, z2, xlet_s, if_pos rfl, z3, xbR_s, d1, xbR_s, xlet_s, if_neg (by decide), z4, xbR_s, e1, xbR_s]
theorem coin_M {τ τ1 τ2 τ3 : xSt} {q : Int → xSt → Option (Int × xSt)} {n h i ci e1 : Nat} (hh : h < 27) (hin : h % 9 = i) (hn : n < 80) (h135 : τ 135 (h / 9) = (ci : Int)) (b1 : f_M_lays 2 (ci : Int) τ = some ((n : Int), τ1)) (d2 : q ((i / 3 : Nat) : Int) τ1 = some (((n + 1 : Nat) : Int), τ2)) (e2 : q ((i % 3 : Nat) : Int) (upS τ2 115 (8 * n + 2) ((n + 1 : Nat) : Int)) = some ((e1 : Int), τ3)) :
    f0_M_laySide q ((h + 3 : Nat) : Int) τ = some ((n : Int), upS τ3 115 (8 * n + 3) (e1 : Int)) := by
  subst hin
  have n2 : ¬ ((h + 3 : Nat) : Int) < 2 := by omega
  have n3 : ¬ ((h + 3 : Nat) : Int) = 2 := by omega
  have p1 : 0 ≤ ((h / 9 : Nat) : Int) ∧ ((h / 9 : Nat) : Int) < 3 := by omega
  have q2 : 0 ≤ ((8 * n + 2 : Nat) : Int) ∧ ((8 * n + 2 : Nat) : Int) < 640 := by omega
  have q3 : 0 ≤ ((8 * n + 3 : Nat) : Int) ∧ ((8 * n + 3 : Nat) : Int) < 640 := by omega
  have o1 : n < 100000 := by omega
  have o2 : 8 * n < 100000 := by omega
  have o3 : 8 * n + 3 < 100000 := by omega
  have o4 : h % 9 < 2147483648 := by omega
  have o5 : h < 2147483648 := by omega
  have h3 : w32 (((h + 3 : Nat) : Int) - 3) = (h : Int) := (w32_o (by omega) (by omega)).trans (by omega)
  have z1 : xdiv (h : Int) 9 = ((h / 9 : Nat) : Int) := xdiv_n (b := 9) o5
  have z2 : xrem (h : Int) 9 = ((h % 9 : Nat) : Int) := xrem_n (b := 9) o5
  have z3 : xdiv ((h % 9 : Nat) : Int) 3 = ((h % 9 / 3 : Nat) : Int) := xdiv_n (b := 3) o4
  have z4 : xrem ((h % 9 : Nat) : Int) 3 = ((h % 9 % 3 : Nat) : Int) := xrem_n (b := 3) o4
  have y1 : w32 (8 * (n : Int)) = ((8 * n : Nat) : Int) := w32_8n o1
  have y2 : w32 (((8 * n : Nat) : Int) + 2) = ((8 * n + 2 : Nat) : Int) := w32_n2 o2
  have y3 : w32 (((8 * n : Nat) : Int) + 3) = ((8 * n + 3 : Nat) : Int) := w32_nn (a := 8 * n) (b := 3) o3
  unfold f0_M_laySide
  rw [if_neg n2, if_neg n3, h3, z1, if_pos p1, Int.toNat_natCast, h135, b1, xbW_s, z2, xlet_s, z3, d2, xbW_s, y1, y2, if_pos q2, Int.toNat_natCast, xlet_s, z4, e2, xbW_s, y3, if_pos q3, Int.toNat_natCast, xlet_s]
/-- a coin with two of these -/
theorem coin_lock0 {σ τ : xSt} {n ci l1 l2 sd : Nat} {fr : Int} (hn : σ 16 0 = (n : Int)) (hm : τ 111 25 = (n : Int)) (h80 : n + 3 ≤ 80) (hl1 : l1 < 3) (hl2 : l2 < 3) (hcn : CnR σ 7 (ci : Int)) (hfr : fr < (n : Int)) (hsd : sd < 6) (he : 2 ≤ σ 7 2) (h36 : ∀ k : Nat, (k : Int) < σ 7 1 → σ 10 k ≤ 6) (D : Nat) :
    ∃ σ1 σ2 σ3 τ1 τ2 τ3, f_Way_add 16 2 (ci : Int) fr (sd : Int) σ = some ((n : Int), σ1) ∧ f_Best_buildLeaf (n : Int) ((0 : Nat) : Int) (l1 : Int) σ1 = some σ2 ∧ f_Best_buildLeaf (n : Int) ((1 : Nat) : Int) (l2 : Int) σ2 = some σ3 ∧
      f_M_lays 2 (ci : Int) τ = some ((n : Int), τ1) ∧ g_M_laySide (D + 1) (l1 : Int) τ1 = some (((n + 1 : Nat) : Int), τ2) ∧ g_M_laySide (D + 1) (l2 : Int) (upS τ2 115 (8 * n + 2) ((n + 1 : Nat) : Int)) = some (((n + 2 : Nat) : Int), τ3) ∧
      GrX 16 n (n + 3) fr sd σ σ3 ∧ GrM n (n + 3) τ (upS τ3 115 (8 * n + 3) ((n + 2 : Nat) : Int)) ∧ (∀ k : Nat, n ≤ k → k < n + 3 → NdX σ3 (upS τ3 115 (8 * n + 3) ((n + 2 : Nat) : Int)) 7 16 k) ∧ ∀ d, Sub σ3 7 16 (d + 1) n (n + 3) 1 := by
  obtain ⟨c1, c2, c3⟩ := hcn
  obtain ⟨σ1, a1, aX, a3, a4, a7, -, a12⟩ := x_waddG hn (by omega) 2 (ci : Int) fr hsd hfr
  obtain ⟨τ1, b1, bM, b3, b4, b5, b7⟩ := m_laysG hm (by omega) 2 (ci : Int)
  obtain ⟨σ2, τ2, d1, d2, dX, dM, d5, d6⟩ := leaf_lock (σ := σ1) (τ := τ1) (n := n + 1) (l := l1) (sd := 0) (fr := (n : Int)) aX.1 bM.1 (by omega) hl1 (by omega) (by decide) (by rw [a12 7 2 (by omega)]; exact he) D
  have F12 : Fr s_Best_buildLeaf σ1 σ2 := fr_Best_buildLeaf d1
  have k71 : ∀ k, σ2 7 k = σ 7 k := fun k => (F12 7 k rfl).trans (a12 7 k (by decide))
  have k101 : ∀ k, σ2 10 k = σ 10 k := fun k => (F12 10 k rfl).trans (a12 10 k (by decide))
  have m1 : (upS τ2 115 (8 * n + 2) ((n + 1 : Nat) : Int)) 111 25 = ((n + 2 : Nat) : Int) := by rw [upS_ne (by decide)]; exact dM.1
  obtain ⟨σ3, τ3, e1, e2, eX, eM, e5, e6⟩ := leaf_lock (σ := σ2) (τ := upS τ2 115 (8 * n + 2) ((n + 1 : Nat) : Int)) (n := n + 2) (l := l2) (sd := 1) (fr := (n : Int)) dX.1 m1 (by omega) hl2 (by omega) (by decide) (by rw [k71 2]; exact he) D
  have F23 : Fr s_Best_buildLeaf σ2 σ3 := fr_Best_buildLeaf e1
  have k7 : ∀ k, σ3 7 k = σ 7 k := fun k => (F23 7 k rfl).trans (k71 k)
  have k10 : ∀ k, σ3 10 k = σ 10 k := fun k => (F23 10 k rfl).trans (k101 k)
  obtain ⟨r1, r2, r3, r4, r5, r6, r7, r8, r9⟩ := two_root dX eX a3 a4 a7
  obtain ⟨t1, t2, t3, t4, t5, t6, t7, t8⟩ := two_rootM (by omega) dM eM b3 b4 b5
  have c2' : (ci : Int) < σ3 7 1 := by rw [k7]; exact c2
  have c3' : σ3 (7 + 3) ((ci : Int)).toNat = 2 := by rw [show σ3 (7 + 3) ((ci : Int)).toNat = σ 10 ((ci : Int)).toNat from k10 _]; exact c3
  have sub1 : ∀ d, Sub σ3 7 16 d (n + 1) (n + 2) 0 := fun d => Sub_gr eX (Nat.le_refl _) (by omega) (by decide) (fun k => F23 7 k rfl) (fun k => F23 10 k rfl) (fun k hk => by rw [k71] at hk; rw [show σ2 (7 + 3) k = σ 10 k from k101 k]; exact h36 k hk) (d6 d)
  refine ⟨σ1, σ2, σ3, τ1, τ2, τ3, a1, d1, e1, b1, d2, e2, (aX.cat dX (Nat.le_refl n) hfr hsd).cat eX (Nat.le_refl n) hfr hsd, ⟨?_, fun q hq => ?_⟩, fun k h1 h2 => ?_, fun d => ?_⟩
  · rw [upS_ne (by decide)]
    exact eM.1
  · rw [t6 q hq]
    exact bM.2 q hq
  · have hk : k = n ∨ k = n + 1 ∨ k = n + 2 := by omega
    rcases hk with rfl | rfl | rfl
    · exact two_nd (by omega) c2' c3' r1 r2 r3 r4 r5 t1 t2 t3 t4 t5
    · exact NdX_gr eX (by omega) (by omega) (by decide) (fun k => F23 7 k rfl) (fun k => F23 10 k rfl) (fun q h1 h2 => t7 q (by omega) (by omega)) d5
    · exact NdX_keep (fun _ => rfl) (fun _ => rfl) rfl rfl (fun _ _ => rfl) (fun q h1 h2 => t8 q (by omega)) e5
  · exact Sub_two (m1 := 0) (m2 := 0) r1 (by rw [r2]; omega) (by rw [r2]; exact c2') (by rw [r2]; exact c3') (sub1 d) (e6 d) r6 r7 r3 r8 r9 r4
theorem coin_lock {σ τ : xSt} {n c h sd : Nat} {fr : Int} (hn : σ 16 0 = (n : Int)) (hm : τ 111 25 = (n : Int)) (h80 : n + 3 ≤ 80) (hc : c < 27) (hh : h < 27) (hin : h % 9 = c % 9) (h135 : τ 135 (h / 9) = ((c / 9 : Nat) : Int)) (hcn : CnR σ 7 ((c / 9 : Nat) : Int)) (hfr : fr < (n : Int)) (hsd : sd < 6) (he : 2 ≤ σ 7 2) (h36 : ∀ k : Nat, (k : Int) < σ 7 1 → σ 10 k ≤ 6) (D : Nat) :
    ∃ σ' τ', f_Best_buildSide fr (sd : Int) ((c + 3 : Nat) : Int) σ = some σ' ∧ g_M_laySide (D + 2) ((h + 3 : Nat) : Int) τ = some ((n : Int), τ') ∧ GrX 16 n (n + 3) fr sd σ σ' ∧ GrM n (n + 3) τ τ' ∧ (∀ k : Nat, n ≤ k → k < n + 3 → NdX σ' τ' 7 16 k) ∧ ∀ d, Sub σ' 7 16 (d + 1) n (n + 3) 1 := by
  obtain ⟨σ1, σ2, σ3, τ1, τ2, τ3, a1, a2, a3, b1, b2, b3, g1, g2, g3, g4⟩ := coin_lock0 (ci := c / 9) (l1 := c % 9 / 3) (l2 := c % 9 % 3) hn hm h80 (by omega) (by omega) hcn hfr hsd he h36 D
  exact ⟨σ3, _, coin_X hc a1 a2 a3, coin_M hh hin (by omega) h135 b1 b2 b3, g1, g2, g3, g4⟩
