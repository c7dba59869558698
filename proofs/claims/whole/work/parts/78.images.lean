/-! image and restore -/
theorem gLay_cg {s t : xSt} {b : Int} {a q : Nat} (h : s a q = t a q) : gLay b s a q = gLay b t a q := by
  unfold gLay
  split
  · show (if a = 113 ∧ q = 2 then (-1 : Int) else if a = 111 ∧ q = 22 then 1 else s a q) = (if a = 113 ∧ q = 2 then (-1 : Int) else if a = 111 ∧ q = 22 then 1 else t a q)
    rw [h]
  · exact h
def CpS (σ σ' : xSt) (t' t w' w q' q : Nat) : Prop :=
  (∀ k : Nat, k < 4 → σ' t' k = σ t k) ∧
  (∀ k : Nat, k < 3 → σ' (t' + 1) k = σ (t + 1) k ∧ σ' (t' + 2) k = xnb (σ (t + 2) k) ∧ σ' (t' + 3) k = σ (t + 3) k ∧ σ' (t' + 4) k = σ (t + 4) k) ∧
  (∀ k : Nat, k < 18 → σ' (t' + 5) k = σ (t + 5) k) ∧
  (∀ k : Nat, k < 6 → σ' (t' + 6) k = σ (t + 6) k ∧ σ' (t' + 7) k = σ (t + 7) k ∧ σ' (t' + 8) k = σ (t + 8) k) ∧
  σ' w' 0 = σ w 0 ∧ σ' w' 1 = σ w 1 ∧
  (∀ k : Nat, k < 80 → σ' (w' + 1) k = σ (w + 1) k ∧ σ' (w' + 2) k = σ (w + 2) k ∧ σ' (w' + 3) k = σ (w + 3) k ∧ σ' (w' + 4) k = σ (w + 4) k) ∧
  (∀ k : Nat, k < 480 → σ' (w' + 5) k = σ (w + 5) k) ∧
  σ' q' 0 = σ q 0 ∧ σ' q' 1 = σ q 1 ∧ ∀ k : Nat, k < 40 → σ' (q' + 1) k = σ (q + 1) k ∧ σ' (q' + 2) k = σ (q + 2) k ∧ σ' (q' + 3) k = σ (q + 3) k
def inTWS (t w q a : Nat) : Prop := t ≤ a ∧ a ≤ t + 8 ∨ w ≤ a ∧ a ≤ w + 5 ∨ q ≤ a ∧ a ≤ q + 3
theorem CpS.cg {σ σ' τ τ' : xSt} {t' t w' w q' q : Nat} (h : CpS σ σ' t' t w' w q' q) (h1 : ∀ a k, inTWS t w q a → τ a k = σ a k) (h2 : ∀ a k, inTWS t' w' q' a → τ' a k = σ' a k) : CpS τ τ' t' t w' w q' q := by
  obtain ⟨c1, c2, c3, c4, c5, c6, c7, c8, c9, c10, c11⟩ := h
  have a1 : ∀ a k, t ≤ a → a ≤ t + 8 → τ a k = σ a k := fun a k x y => h1 a k (Or.inl ⟨x, y⟩)
  have a2 : ∀ a k, w ≤ a → a ≤ w + 5 → τ a k = σ a k := fun a k x y => h1 a k (Or.inr (Or.inl ⟨x, y⟩))
  have a3 : ∀ a k, q ≤ a → a ≤ q + 3 → τ a k = σ a k := fun a k x y => h1 a k (Or.inr (Or.inr ⟨x, y⟩))
  have b1 : ∀ a k, t' ≤ a → a ≤ t' + 8 → τ' a k = σ' a k := fun a k x y => h2 a k (Or.inl ⟨x, y⟩)
  have b2 : ∀ a k, w' ≤ a → a ≤ w' + 5 → τ' a k = σ' a k := fun a k x y => h2 a k (Or.inr (Or.inl ⟨x, y⟩))
  have b3 : ∀ a k, q' ≤ a → a ≤ q' + 3 → τ' a k = σ' a k := fun a k x y => h2 a k (Or.inr (Or.inr ⟨x, y⟩))
  refine ⟨fun k hk => ?_, fun k hk => ⟨?_, ?_, ?_, ?_⟩, fun k hk => ?_, fun k hk => ⟨?_, ?_, ?_⟩, ?_, ?_, fun k hk => ⟨?_, ?_, ?_, ?_⟩, fun k hk => ?_, ?_, ?_, fun k hk => ⟨?_, ?_, ?_⟩⟩
  · rw [b1 t' k (by omega) (by omega), a1 t k (by omega) (by omega)]
    exact c1 k hk
  · rw [b1 (t' + 1) k (by omega) (by omega), a1 (t + 1) k (by omega) (by omega)]
    exact (c2 k hk).1
  · rw [b1 (t' + 2) k (by omega) (by omega), a1 (t + 2) k (by omega) (by omega)]
    exact (c2 k hk).2.1
  · rw [b1 (t' + 3) k (by omega) (by omega), a1 (t + 3) k (by omega) (by omega)]
    exact (c2 k hk).2.2.1
  · rw [b1 (t' + 4) k (by omega) (by omega), a1 (t + 4) k (by omega) (by omega)]
    exact (c2 k hk).2.2.2
  · rw [b1 (t' + 5) k (by omega) (by omega), a1 (t + 5) k (by omega) (by omega)]
    exact c3 k hk
  · rw [b1 (t' + 6) k (by omega) (by omega), a1 (t + 6) k (by omega) (by omega)]
    exact (c4 k hk).1
  · rw [b1 (t' + 7) k (by omega) (by omega), a1 (t + 7) k (by omega) (by omega)]
    exact (c4 k hk).2.1
  · rw [b1 (t' + 8) k (by omega) (by omega), a1 (t + 8) k (by omega) (by omega)]
    exact (c4 k hk).2.2
  · rw [b2 w' 0 (by omega) (by omega), a2 w 0 (by omega) (by omega)]
    exact c5
  · rw [b2 w' 1 (by omega) (by omega), a2 w 1 (by omega) (by omega)]
    exact c6
  · rw [b2 (w' + 1) k (by omega) (by omega), a2 (w + 1) k (by omega) (by omega)]
    exact (c7 k hk).1
  · rw [b2 (w' + 2) k (by omega) (by omega), a2 (w + 2) k (by omega) (by omega)]
    exact (c7 k hk).2.1
  · rw [b2 (w' + 3) k (by omega) (by omega), a2 (w + 3) k (by omega) (by omega)]
    exact (c7 k hk).2.2.1
  · rw [b2 (w' + 4) k (by omega) (by omega), a2 (w + 4) k (by omega) (by omega)]
    exact (c7 k hk).2.2.2
  · rw [b2 (w' + 5) k (by omega) (by omega), a2 (w + 5) k (by omega) (by omega)]
    exact c8 k hk
  · rw [b3 q' 0 (by omega) (by omega), a3 q 0 (by omega) (by omega)]
    exact c9
  · rw [b3 q' 1 (by omega) (by omega), a3 q 1 (by omega) (by omega)]
    exact c10
  · rw [b3 (q' + 1) k (by omega) (by omega), a3 (q + 1) k (by omega) (by omega)]
    exact (c11 k hk).1
  · rw [b3 (q' + 2) k (by omega) (by omega), a3 (q + 2) k (by omega) (by omega)]
    exact (c11 k hk).2.1
  · rw [b3 (q' + 3) k (by omega) (by omega), a3 (q + 3) k (by omega) (by omega)]
    exact (c11 k hk).2.2
theorem x_cstate {a0 a1 : Nat} (hne : a1 + 20 ≤ a0 ∨ a0 + 20 ≤ a1) (σ : xSt) : ∃ σ', f_State_copyFrom a0 a1 σ = some σ' ∧ CpS σ σ' (a0 + 1) (a1 + 1) (a0 + 10) (a1 + 10) (a0 + 16) (a1 + 16) ∧ ∀ a q, (a < a0 + 1 ∨ a0 + 19 < a) → σ' a q = σ a q := by
  obtain ⟨s1, e1, t1, t2, t3, t4, tz⟩ := x_ctab (a0 := a0 + 1) (a1 := a1 + 1) (by omega) σ
  obtain ⟨s2, e2, w1, w2, w3, w4, wz⟩ := x_cway (a0 := a0 + 10) (a1 := a1 + 10) (by omega) s1
  obtain ⟨s3, e3, q1, q2, q3, qz⟩ := x_csen (a0 := a0 + 16) (a1 := a1 + 16) (by omega) s2
  have k1 : ∀ a k, (a < a0 + 10 ∨ a0 + 19 < a) → s3 a k = s1 a k := fun a k h => (qz a k (by omega)).trans (wz a k (by omega))
  have k2 : ∀ a k, (a < a0 + 16 ∨ a0 + 19 < a) → s3 a k = s2 a k := fun a k h => qz a k (by omega)
  have k3 : ∀ a k, (a < a0 + 1 ∨ a0 + 9 < a) → s1 a k = σ a k := fun a k h => tz a k (by omega)
  have k4 : ∀ a k, (a < a0 + 1 ∨ a0 + 15 < a) → s2 a k = σ a k := fun a k h => (wz a k (by omega)).trans (tz a k (by omega))
  refine ⟨s3, by unfold f_State_copyFrom; rw [e1, xbR_s, e2, xbR_s, e3, xbR_s], ⟨fun k hk => (k1 _ k (by omega)).trans (t1 k hk), fun k hk => ⟨?_, ?_, ?_, ?_⟩, fun k hk => (k1 _ k (by omega)).trans (t3 k hk), fun k hk => ⟨?_, ?_, ?_⟩, ?_, ?_, fun k hk => ⟨?_, ?_, ?_, ?_⟩, fun k hk => ?_, ?_, ?_, fun k hk => ⟨?_, ?_, ?_⟩⟩, fun a q h => ?_⟩
  · exact (k1 _ k (by omega)).trans (t2 k hk).1
  · exact (k1 _ k (by omega)).trans (t2 k hk).2.1
  · exact (k1 _ k (by omega)).trans (t2 k hk).2.2.1
  · exact (k1 _ k (by omega)).trans (t2 k hk).2.2.2
  · exact (k1 _ k (by omega)).trans (t4 k hk).1
  · exact (k1 _ k (by omega)).trans (t4 k hk).2.1
  · exact (k1 _ k (by omega)).trans (t4 k hk).2.2
  · exact (k2 _ 0 (by omega)).trans (w1.trans (k3 _ 0 (by omega)))
  · exact (k2 _ 1 (by omega)).trans (w2.trans (k3 _ 1 (by omega)))
  · exact (k2 _ k (by omega)).trans ((w3 k hk).1.trans (k3 _ k (by omega)))
  · exact (k2 _ k (by omega)).trans ((w3 k hk).2.1.trans (k3 _ k (by omega)))
  · exact (k2 _ k (by omega)).trans ((w3 k hk).2.2.1.trans (k3 _ k (by omega)))
  · exact (k2 _ k (by omega)).trans ((w3 k hk).2.2.2.trans (k3 _ k (by omega)))
  · exact (k2 _ k (by omega)).trans ((w4 k hk).trans (k3 _ k (by omega)))
  · exact q1.trans (k4 _ 0 (by omega))
  · exact q2.trans (k4 _ 1 (by omega))
  · exact (q3 k hk).1.trans (k4 _ k (by omega))
  · exact (q3 k hk).2.1.trans (k4 _ k (by omega))
  · exact (q3 k hk).2.2.trans (k4 _ k (by omega))
  · rw [qz a q (by omega), wz a q (by omega), tz a q (by omega)]
def Img (σ : xSt) (t w q R o N on : Nat) (op : Int) : Prop := TabR σ t R o N on op ∧ WayR σ t w R o ∧ SentR σ t q R o
theorem TabR.n3 {σ : xSt} {b R o N on : Nat} {op : Int} (h : TabR σ b R o N on op) : σ b 1 ≤ 3 ∧ ∀ k : Nat, (k : Int) < σ b 1 → σ (b + 3) k ≤ 6 := by
  obtain ⟨-, -, -, a4, -, -, -, -, -, -, -, -, a13, -⟩ := h
  exact ⟨a4, fun k hk => (a13 k hk).2.2.1⟩
theorem Img_copy {σ σ' : xSt} {t w q R o N on t' w' q' R' o' N' on' : Nat} {op : Int} (h : Img σ t w q R o N on op) (c : CpS σ σ' t' t w' w q' q) (hR : ∀ k : Nat, k < 924 → σ' R' (o' + k) = σ R (o + k)) (hN : ∀ k : Nat, k < 9 → σ' N' (on' + k) = σ N (on + k)) : Img σ' t' w' q' R' o' N' on' op := by
  obtain ⟨h1, h2, h3⟩ := h
  obtain ⟨c1, c2, c3, c4, c5, c6, c7, c8, c9, c10, c11⟩ := c
  have hn := h1.n3
  have hco : ∀ k : Nat, (k : Int) < σ t 1 → σ (t + 2) k = 0 ∨ σ (t + 2) k = 1 := by
    intro k hk
    obtain ⟨-, -, -, -, -, -, -, -, -, -, -, -, a13, -⟩ := h1
    obtain ⟨-, -, -, -, -, -, -, b8, -⟩ := a13 k hk
    rcases b8 with z | ⟨z, -⟩
    · exact Or.inl z
    · exact Or.inr z
  refine ⟨TabR_copy c1 (fun k hk => ⟨(c2 k hk).1, fun hk2 => ?_, (c2 k hk).2.2⟩) c3 c4 (fun k hk => hR k (by omega)) hN h1, WayR_copy (c1 1 (by decide)) (c1 2 (by decide)) hn.1 (fun k hk => (c2 k hk).2.2.1) hn.2 c5 c6 c7 c8 (fun k _ hk => hR k (by omega)) h2, SentR_copy (c1 2 (by decide)) c9 c10 c11 (fun k _ hk => hR k (by omega)) h3⟩
  rw [(c2 k hk).2.1]
  rcases hco k hk2 with z | z <;> rw [z] <;> rfl
theorem Img_same {σ σ' : xSt} {t w q R o N on : Nat} {op : Int} (h : Img σ t w q R o N on op) (c : ∀ a k, inTWS t w q a → σ' a k = σ a k) (hR : ∀ k : Nat, k < 924 → σ' R (o + k) = σ R (o + k)) (hN : ∀ k : Nat, k < 9 → σ' N (on + k) = σ N (on + k)) : Img σ' t w q R o N on op := by
  obtain ⟨h1, h2, h3⟩ := h
  have hn := h1.n3
  have a1 : ∀ a k, t ≤ a → a ≤ t + 8 → σ' a k = σ a k := fun a k x y => c a k (Or.inl ⟨x, y⟩)
  have a2 : ∀ a k, w ≤ a → a ≤ w + 5 → σ' a k = σ a k := fun a k x y => c a k (Or.inr (Or.inl ⟨x, y⟩))
  have a3 : ∀ a k, q ≤ a → a ≤ q + 3 → σ' a k = σ a k := fun a k x y => c a k (Or.inr (Or.inr ⟨x, y⟩))
  refine ⟨TabR_copy (fun k _ => a1 t k (by omega) (by omega)) (fun k hk => ⟨a1 _ k (by omega) (by omega), fun _ => a1 _ k (by omega) (by omega), a1 _ k (by omega) (by omega), a1 _ k (by omega) (by omega)⟩) (fun k _ => a1 _ k (by omega) (by omega)) (fun k _ => ⟨a1 _ k (by omega) (by omega), a1 _ k (by omega) (by omega), a1 _ k (by omega) (by omega)⟩) (fun k hk => hR k (by omega)) hN h1,
    WayR_copy (a1 t 1 (by omega) (by omega)) (a1 t 2 (by omega) (by omega)) hn.1 (fun k _ => a1 _ k (by omega) (by omega)) hn.2 (a2 w 0 (by omega) (by omega)) (a2 w 1 (by omega) (by omega)) (fun k _ => ⟨a2 _ k (by omega) (by omega), a2 _ k (by omega) (by omega), a2 _ k (by omega) (by omega), a2 _ k (by omega) (by omega)⟩) (fun k _ => a2 _ k (by omega) (by omega)) (fun k _ hk => hR k (by omega)) h2,
    SentR_copy (a1 t 2 (by omega) (by omega)) (a3 q 0 (by omega) (by omega)) (a3 q 1 (by omega) (by omega)) (fun k _ => ⟨a3 _ k (by omega) (by omega), a3 _ k (by omega) (by omega), a3 _ k (by omega) (by omega)⟩) (fun k _ hk => hR k (by omega)) h3⟩
theorem BsR_copy {σ σ' : xSt} {b b' : Nat} (h3 : σ b 1 ≤ 3) (h07 : σ' 0 7 = σ 0 7) (h106 : σ' 106 0 = σ 106 0) (h105 : ∀ k : Nat, 1 ≤ k → k ≤ 4 → σ' 105 k = σ 105 k) (hb : ∀ k : Nat, k < 4 → σ' b' k = σ b k) (hs : ∀ k : Nat, k < 3 → σ' (b' + 3) k = σ (b + 3) k) (h : BsR σ b) : BsR σ' b' := by
  have hC : ∀ t : Int, CnR σ b t → CnR σ' b' t := by
    intro t ⟨c1, c2, c3⟩
    refine ⟨c1, ?_, ?_⟩
    · rw [hb 1 (by decide)]
      exact c2
    · rw [hs t.toNat (by omega)]
      exact c3
  obtain ⟨h1, h2, h4⟩ := h
  unfold BsR
  rw [h07, h106, h105 1 (by decide) (by decide), h105 2 (by decide) (by decide), h105 3 (by decide) (by decide), h105 4 (by decide) (by decide), hb 0 (by decide), hb 2 (by decide)]
  refine ⟨h1, h2, fun x y => ?_⟩
  obtain ⟨z1, z2, z3, z4⟩ := h4 x y
  exact ⟨z1, hC _ z2, fun u => hC _ (z3 u), fun u => hC _ (z4 u)⟩
def rng (lo n : Nat) : xZ := (List.range n).map (fun i => (lo + i, []))
theorem inS_rng {lo n a k : Nat} (h1 : lo ≤ a) (h2 : a < lo + n) : inS (rng lo n) a k = true := of_inS (List.mem_map.mpr ⟨a - lo, List.mem_range.mpr (by omega), rfl⟩) (show a = lo + (a - lo) by omega) (Or.inl rfl)
theorem gLay_22 {s : xSt} {b : Int} : (gLay b s) 111 22 = if b = 0 then 1 else s 111 22 := by
  unfold gLay
  by_cases hb : b = 0
  · rw [if_pos hb, if_pos hb, upS_rd, if_neg (by omega), upS_rd, if_pos ⟨rfl, rfl⟩]
  · rw [if_neg hb, if_neg hb]
/-- the model's image behind the class's -/
theorem img_run {σ : xSt} (h : Inv0 σ) {I kk : Nat} (hI : 27 ≤ I) (hI2 : I + 20 ≤ 88) (hk : kk < 2) : ∃ σx M, f_State_copyFrom I 6 σ = some σx ∧ f_M_image (kk : Int) (upS σx I 3 1) = some (1, M) ∧ Img M (I + 1) (I + 10) (I + 16) 116 (924 * kk) 119 (9 * kk) (M 116 (924 * kk + 2)) ∧ M I 3 = 1 ∧ M 120 kk = 1 ∧ (BsR M (I + 1) ∧ (∀ k : Nat, k < 3 → M (I + 1) k = gLay (σ 111 22) σ 7 k) ∧ ∀ k : Nat, k < 3 → M (I + 1 + 3) k = gLay (σ 111 22) σ 10 k) ∧
    (∀ q, (q < 924 * kk ∨ 924 * kk + 924 ≤ q) → M 116 q = σ 116 q) ∧ (∀ q, (q < 9 * kk ∨ 9 * kk + 9 ≤ q) → M 119 q = σ 119 q) ∧ (∀ q, q ≠ kk → M 120 q = σ 120 q) ∧ ∀ a q, (a < I ∨ I + 20 ≤ a) → a ≠ 116 → a ≠ 119 → a ≠ 120 → (a = 111 → q ≠ 0) → M a q = gLay (σ 111 22) σ a q := by
  obtain ⟨σL, hl, -, hIG, h22, hop⟩ := lay_ok h
  obtain rfl : gLay (σ 111 22) σ = σL := Option.some.inj ((gLay_f rfl).symm.trans hl)
  obtain ⟨σx, x1, x2, x3⟩ := x_cstate (a0 := I) (a1 := 6) (by omega) σ
  have kx : ∀ a q, (a < I ∨ I + 20 ≤ a) → (upS (upS σx I 3 1) 111 0 0) a q = if a = 111 ∧ q = 0 then 0 else σ a q := fun a q ha => by
    rw [upS_rd]
    by_cases hz : a = 111 ∧ q = 0
    · rw [if_pos hz, if_pos hz]
    · rw [if_neg hz, if_neg hz, upS_rd, if_neg (by omega), x3 a q (by omega)]
  have e22 : (upS (upS σx I 3 1) 111 0 0) 111 22 = σ 111 22 := (kx 111 22 (by omega)).trans (if_neg (by omega))
  -- behind the model's lay
  have kL : ∀ a q, (a < I ∨ I + 20 ≤ a) → (a = 111 → q ≠ 0) → gLay (σ 111 22) (upS (upS σx I 3 1) 111 0 0) a q = gLay (σ 111 22) σ a q := by
    intro a q ha hq
    have h1 := (kx a q ha).trans (if_neg (fun z => hq z.1 z.2))
    exact gLay_cg h1
  have kI : ∀ a q, I ≤ a → a < I + 20 → gLay (σ 111 22) (upS (upS σx I 3 1) 111 0 0) a q = (upS σx I 3 1) a q := by
    intro a q h1 h2
    rw [gLay_k (fun z => by omega) (fun z => by omega), upS_rd, if_neg (by omega)]
  obtain ⟨M1, m1, m2, m3, m4⟩ := m_im22 hk 924 1000000 0 (gLay (σ 111 22) (upS (upS σx I 3 1) 111 0 0)) (by omega) (by omega)
  obtain ⟨M2, n1, n2, n3, n4⟩ := m_im55 hk 9 1000000 0 M1 (by omega) (by omega)
  rw [c0n] at m1 n1
  have hkk : 0 ≤ (kk : Int) ∧ (kk : Int) < 2 := by omega
  have kM : ∀ a q, a ≠ 116 → a ≠ 119 → a ≠ 120 → (upS M2 120 kk 1) a q = gLay (σ 111 22) (upS (upS σx I 3 1) 111 0 0) a q := fun a q q1 q2 q3 => by rw [upS_rd, if_neg (fun z => q3 z.1), n4 a q q2, m4 a q q1]
  have kMI : ∀ a q, I ≤ a → a < I + 20 → (upS M2 120 kk 1) a q = (upS σx I 3 1) a q := fun a q h1 h2 => (kM a q (by omega) (by omega) (by omega)).trans (kI a q h1 h2)
  have kMO : ∀ a q, (a < I ∨ I + 20 ≤ a) → a ≠ 116 → a ≠ 119 → a ≠ 120 → (a = 111 → q ≠ 0) → (upS M2 120 kk 1) a q = gLay (σ 111 22) σ a q := fun a q h1 h2 h3 h4 h5 => (kM a q h2 h3 h4).trans (kL a q h1 h5)
  have k116 : ∀ k : Nat, k < 924 → (upS M2 120 kk 1) 116 (924 * kk + k) = gLay (σ 111 22) σ 113 k := fun k hk => by
    rw [upS_rd, if_neg (by omega), n4 _ _ (by omega), m2 k (by omega) hk]
    exact kL 113 k (by omega) (by omega)
  have k119 : ∀ k : Nat, k < 9 → (upS M2 120 kk 1) 119 (9 * kk + k) = gLay (σ 111 22) σ 117 k := fun k hk => by
    rw [upS_rd, if_neg (by omega), n2 k (by omega) hk, m4 _ _ (by omega)]
    exact kL 117 k (by omega) (by omega)
  have cp : CpS (gLay (σ 111 22) σ) (upS M2 120 kk 1) (I + 1) 7 (I + 10) 16 (I + 16) 22 := by
    refine CpS.cg x2 (fun a k ha => gLay_k (fun z => ?_) (fun z => ?_)) (fun a k ha => ?_)
    · unfold inTWS at ha
      omega
    · unfold inTWS at ha
      omega
    · unfold inTWS at ha
      rw [kMI a k (by omega) (by omega), upS_rd, if_neg (by omega)]
  have hop2 : opM (gLay (σ 111 22) σ) = gLay (σ 111 22) σ 113 2 := by
    unfold opM
    rw [if_neg h22]
  have img0 : Img (gLay (σ 111 22) σ) 7 16 22 113 0 117 0 (gLay (σ 111 22) σ 113 2) := by
    rw [← hop2]
    exact ⟨hIG.2.1.1, hIG.2.2.1.1, hIG.2.2.2.1.1⟩
  refine ⟨σx, upS M2 120 kk 1, x1, ?_, ?_, ?_, ?_, ?_, ?_, ?_, ?_, kMO⟩
  · unfold f_M_image
    rw [xlet_s, gLay_f e22, xbR_s, m_isIn, if_pos (by omega), xbR_s, if_neg (by decide), m1, n1, if_pos hkk, Int.toNat_natCast, xlet_s]
  · rw [k116 2 (by omega)]
    refine Img_copy img0 cp (fun k hk => ?_) (fun k hk => ?_)
    · rw [k116 k hk, Nat.zero_add]
    · rw [k119 k hk, Nat.zero_add]
  · rw [kMI I 3 (by omega) (by omega), upS_rd, if_pos ⟨rfl, rfl⟩]
  · rw [upS_rd, if_pos ⟨rfl, rfl⟩]
  · have hb := hIG.2.2.2.2.2.2.2.1
    refine ⟨?_, fun k hk => cp.1 k (by omega), fun k hk => (cp.2.1 k hk).2.2.1⟩
    refine BsR_copy hIG.things.2.2 (kMO 0 7 (by omega) (by omega) (by omega) (by omega) (by omega)) (kMO 106 0 (by omega) (by omega) (by omega) (by omega) (by omega)) (fun k _ _ => kMO 105 k (by omega) (by omega) (by omega) (by omega) (by omega)) cp.1 (fun k hk => (cp.2.1 k hk).2.2.1) hb
  · intro q hq
    rw [upS_rd, if_neg (by omega), n4 _ _ (by omega), m3 q (by omega), kL 116 q (by omega) (by omega), gLay_k (by omega) (by omega)]
  · intro q hq
    rw [upS_rd, if_neg (by omega), n3 q (by omega), m4 _ _ (by omega), kL 119 q (by omega) (by omega), gLay_k (by omega) (by omega)]
  · intro q hq
    rw [upS_rd, if_neg (by omega), n4 _ _ (by omega), m4 _ _ (by omega), kL 120 q (by omega) (by omega), gLay_k (by omega) (by omega)]
theorem C_img.of {σ : xSt} (h : C_img σ) : (σ 47 3 = 0 ∧ σ 120 0 = 0 ∨ σ 47 3 = 1 ∧ σ 120 0 = 1 ∧ Img σ 48 57 63 116 0 119 0 (σ 116 2)) ∧ (σ 67 3 = 0 ∧ σ 120 1 = 0 ∨ σ 67 3 = 1 ∧ σ 120 1 = 1 ∧ Img σ 68 77 83 116 924 119 9 (σ 116 926)) := h
theorem C_img.mk {σ : xSt} (h : (σ 47 3 = 0 ∧ σ 120 0 = 0 ∨ σ 47 3 = 1 ∧ σ 120 0 = 1 ∧ Img σ 48 57 63 116 0 119 0 (σ 116 2)) ∧ (σ 67 3 = 0 ∧ σ 120 1 = 0 ∨ σ 67 3 = 1 ∧ σ 120 1 = 1 ∧ Img σ 68 77 83 116 924 119 9 (σ 116 926))) : C_img σ := h
theorem BsR_same {σ σ' : xSt} {b : Nat} (h07 : σ' 0 7 = σ 0 7) (h106 : σ' 106 0 = σ 106 0) (h105 : ∀ k : Nat, σ' 105 k = σ 105 k) (hb : ∀ k : Nat, σ' b k = σ b k) (hs : ∀ k : Nat, σ' (b + 3) k = σ (b + 3) k) (h : BsR σ b) : BsR σ' b := by
  unfold BsR CnR at h ⊢
  simp only [h07, h106, h105, hb, hs]
  exact h
def S_b4 : xZ := [(0, [7]), (105, [1, 2, 3, 4]), (106, []), (111, [58, 59, 60, 61]), (133, []), (135, [])]
def C_b4 (σ : xSt) : Prop := (σ 106 0 = 0 ∧ σ 111 58 = -1) ∨ (σ 106 0 = 1 ∧ (σ 111 58 = 3 ∨ σ 111 58 = 5 ∨ σ 111 58 = 7) ∧ σ 105 1 = σ 111 59 ∧ 0 ≤ σ 105 1 ∧ σ 105 1 ≤ σ 0 7 ∧ σ 106 1 = σ 111 60 ∧ σ 106 2 = σ 111 61 ∧
    0 ≤ σ 105 2 ∧ σ 105 2 < 3 ∧ σ 133 0 = σ 105 2 ∧ LfR σ (σ 105 3) (σ 133 1) ∧ LfR σ (σ 105 4) (σ 133 2))
theorem C_b4.ag {σ σ' : xSt} (hp : C_b4 σ) (h : Ag S_b4 σ σ') : C_b4 σ' := by
  have hp : C_b4 (rS S_b4 σ) := hp
  rw [← h.rs] at hp
  exact hp
theorem C_best.of {σ : xSt} (h : C_best σ) : BsR σ 7 ∧ BsR σ 48 ∧ BsR σ 68 ∧ C_b4 σ ∧ TbA σ := h
theorem C_best.mk {σ : xSt} (h : BsR σ 7 ∧ BsR σ 48 ∧ BsR σ 68 ∧ C_b4 σ ∧ TbA σ) : C_best σ := h
theorem TbE.cg {σ σ' : xSt} {b c b' c' : Nat} (h : TbE σ b c) (h3 : σ b 1 ≤ 3) (hb : ∀ k : Nat, k < 3 → σ' b' k = σ b k) (hb3 : ∀ k : Nat, k < 3 → σ' (b' + 3) k = σ (b + 3) k) (hc : ∀ k : Nat, k < 3 → σ' c' k = σ c k) (hc3 : ∀ k : Nat, k < 3 → σ' (c' + 3) k = σ (c + 3) k) : TbE σ' b' c' := by
  intro h0
  rw [hb 0 (by decide), hc 0 (by decide)] at h0
  obtain ⟨h1, h2, h4⟩ := h h0
  rw [hb 1 (by decide), hb 2 (by decide), hc 1 (by decide), hc 2 (by decide)]
  refine ⟨h1, h2, fun t ht => ?_⟩
  rw [hb3 t (by omega), hc3 t (by omega)]
  exact h4 t ht
theorem TbE.sy {σ : xSt} {b c : Nat} (h : TbE σ b c) : TbE σ c b := by
  intro h0
  obtain ⟨h1, h2, h4⟩ := h h0.symm
  exact ⟨h1.symm, h2.symm, fun t ht => (h4 t (by rw [h1]; exact ht)).symm⟩
theorem TbE.rf {σ : xSt} {b : Nat} : TbE σ b b := fun _ => ⟨rfl, rfl, fun _ _ => rfl⟩
def s_im (I : Nat) : xZ := rng I 20 ++ [(116, []), (119, []), (120, []), (111, [0])]
theorem s_im_out {I a k : Nat} (h : inS (s_im I) a k = false) : (a < I ∨ I + 20 ≤ a) ∧ a ≠ 116 ∧ a ≠ 119 ∧ a ≠ 120 ∧ (a = 111 → k ≠ 0) := by
  unfold s_im at h
  rw [inS_app] at h
  simp only [Bool.or_eq_false_iff] at h
  obtain ⟨h1, h2⟩ := h
  refine ⟨?_, ?_, ?_, ?_, ?_⟩
  · by_cases hc : a < I ∨ I + 20 ≤ a
    · exact hc
    · rw [inS_rng (lo := I) (n := 20) (by omega) (by omega)] at h1
      cases h1
  · rintro rfl
    cases h2
  · rintro rfl
    cases h2
  · rintro rfl
    cases h2
  · rintro rfl rfl
    cases h2
theorem sim_image {n : Nat} : ∀ p1 : Int, in32 p1 → SimW (InvN (n + 1)) (InvN n) (f_X_image p1) (f_M_image p1) := by
  intro p1 _
  refine simW0 (fun σ h => ?_)
  obtain ⟨σL, hl, -, hIG, h22, hop⟩ := lay_ok h
  obtain rfl : gLay (σ 111 22) σ = σL := Option.some.inj ((gLay_f rfl).symm.trans hl)
  have h3G := hIG.things.2.2
  by_cases hp : 0 ≤ p1 ∧ p1 < 2
  · by_cases h0 : p1 = 0
    · subst h0
      obtain ⟨σx, M, a1, a2, a3, a4, a5, a6, a7, a8, a9, a10⟩ := img_run h (I := 47) (kk := 0) (by decide) (by decide) (by decide)
      have F : Fr (s_im 47) (gLay (σ 111 22) σ) M := fun a k hk => by
        obtain ⟨z1, z2, z3, z4, z5⟩ := s_im_out hk
        exact a10 a k z1 z2 z3 z4 z5
      obtain ⟨p1, p2, p3, p4, p5, p6, p7, p8⟩ := hIG
      refine ⟨1, upS σx 47 3 1, M, ?_, a2, ⟨p1.ag (F.ag rfl), p2.ag (F.ag rfl), p3.ag (F.ag rfl), p4.ag (F.ag rfl), C_img.mk ⟨Or.inr ⟨a4, a5, a3⟩, ?_⟩, p6.ag (F.ag rfl), p7.ag (F.ag rfl), C_best.mk ?_⟩, ?_⟩
      · unfold f_X_image
        rw [if_pos hp, if_pos rfl, a1, xbR_s]
      · rw [show M 67 3 = gLay (σ 111 22) σ 67 3 from a10 67 3 (by omega) (by omega) (by omega) (by omega) (by omega), a9 1 (by omega), show σ 120 1 = gLay (σ 111 22) σ 120 1 from (gLay_k (by omega) (by omega)).symm, a7 926 (by omega), show σ 116 926 = gLay (σ 111 22) σ 116 926 from (gLay_k (by omega) (by omega)).symm]
        rcases p5.of.2 with z | ⟨z1, z2, z3⟩
        · exact Or.inl z
        · refine Or.inr ⟨z1, z2, Img_same z3 (fun a k ha => ?_) (fun k hk => ?_) (fun k hk => ?_)⟩
          · unfold inTWS at ha
            exact a10 a k (by omega) (by omega) (by omega) (by omega) (by omega)
          · rw [a7 _ (by omega), gLay_k (by omega) (by omega)]
          · rw [a8 _ (by omega), gLay_k (by omega) (by omega)]
      · obtain ⟨b1, b2, b3, b4, ta, tb, tc⟩ := p8.of
        obtain ⟨a6, a6b, a6c⟩ := a6
        have kk : ∀ a k : Nat, a < 47 ∨ 87 ≤ a → a < 116 → a ≠ 111 → M a k = gLay (σ 111 22) σ a k := fun a k z1 z2 z3 => a10 a k (by omega) (by omega) (by omega) (by omega) (by omega)
        refine ⟨BsR_same (kk 0 7 (by omega) (by omega) (by omega)) (kk 106 0 (by omega) (by omega) (by omega)) (fun k => kk 105 k (by omega) (by omega) (by omega)) (fun k => a10 7 k (by omega) (by omega) (by omega) (by omega) (by omega)) (fun k => a10 (7 + 3) k (by omega) (by omega) (by omega) (by omega) (by omega)) b1, a6, BsR_same (kk 0 7 (by omega) (by omega) (by omega)) (kk 106 0 (by omega) (by omega) (by omega)) (fun k => kk 105 k (by omega) (by omega) (by omega)) (fun k => a10 68 k (by omega) (by omega) (by omega) (by omega) (by omega)) (fun k => a10 (68 + 3) k (by omega) (by omega) (by omega) (by omega) (by omega)) b3, b4.ag (F.ag rfl), ?_⟩
        have q7 : ∀ k : Nat, k < 3 → M 7 k = gLay (σ 111 22) σ 7 k := fun k _ => kk 7 k (by omega) (by omega) (by omega)
        have q10 : ∀ k : Nat, k < 3 → M (7 + 3) k = gLay (σ 111 22) σ (7 + 3) k := fun k _ => kk _ k (by omega) (by omega) (by omega)
        have q68 : ∀ k : Nat, k < 3 → M 68 k = gLay (σ 111 22) σ 68 k := fun k _ => a10 68 k (by omega) (by omega) (by omega) (by omega) (by omega)
        have q71 : ∀ k : Nat, k < 3 → M (68 + 3) k = gLay (σ 111 22) σ (68 + 3) k := fun k _ => a10 _ k (by omega) (by omega) (by omega) (by omega) (by omega)
        exact ⟨TbE.cg (TbE.rf (b := 7)) h3G q7 q10 a6b a6c, tb.cg h3G q7 q10 q68 q71, tb.cg h3G a6b a6c q68 q71⟩
      · exact (a10 0 7 (by omega) (by omega) (by omega) (by omega) (by omega)).trans (gLay_k (by omega) (by omega))
    · obtain rfl : p1 = 1 := by omega
      obtain ⟨σx, M, a1, a2, a3, a4, a5, a6, a7, a8, a9, a10⟩ := img_run h (I := 67) (kk := 1) (by decide) (by decide) (by decide)
      have F : Fr (s_im 67) (gLay (σ 111 22) σ) M := fun a k hk => by
        obtain ⟨z1, z2, z3, z4, z5⟩ := s_im_out hk
        exact a10 a k z1 z2 z3 z4 z5
      obtain ⟨p1, p2, p3, p4, p5, p6, p7, p8⟩ := hIG
      refine ⟨1, upS σx 67 3 1, M, ?_, a2, ⟨p1.ag (F.ag rfl), p2.ag (F.ag rfl), p3.ag (F.ag rfl), p4.ag (F.ag rfl), C_img.mk ⟨?_, Or.inr ⟨a4, a5, a3⟩⟩, p6.ag (F.ag rfl), p7.ag (F.ag rfl), C_best.mk ?_⟩, ?_⟩
      · unfold f_X_image
        rw [if_pos hp, if_neg (by decide), a1, xbR_s]
      · rw [show M 47 3 = gLay (σ 111 22) σ 47 3 from a10 47 3 (by omega) (by omega) (by omega) (by omega) (by omega), a9 0 (by omega), show σ 120 0 = gLay (σ 111 22) σ 120 0 from (gLay_k (by omega) (by omega)).symm, a7 2 (by omega), show σ 116 2 = gLay (σ 111 22) σ 116 2 from (gLay_k (by omega) (by omega)).symm]
        rcases p5.of.1 with z | ⟨z1, z2, z3⟩
        · exact Or.inl z
        · refine Or.inr ⟨z1, z2, Img_same z3 (fun a k ha => ?_) (fun k hk => ?_) (fun k hk => ?_)⟩
          · unfold inTWS at ha
            exact a10 a k (by omega) (by omega) (by omega) (by omega) (by omega)
          · rw [a7 _ (by omega), gLay_k (by omega) (by omega)]
          · rw [a8 _ (by omega), gLay_k (by omega) (by omega)]
      · obtain ⟨b1, b2, b3, b4, ta, tb, tc⟩ := p8.of
        obtain ⟨a6, a6b, a6c⟩ := a6
        have kk : ∀ a k : Nat, a < 47 ∨ 87 ≤ a → a < 116 → a ≠ 111 → M a k = gLay (σ 111 22) σ a k := fun a k z1 z2 z3 => a10 a k (by omega) (by omega) (by omega) (by omega) (by omega)
        refine ⟨BsR_same (kk 0 7 (by omega) (by omega) (by omega)) (kk 106 0 (by omega) (by omega) (by omega)) (fun k => kk 105 k (by omega) (by omega) (by omega)) (fun k => a10 7 k (by omega) (by omega) (by omega) (by omega) (by omega)) (fun k => a10 (7 + 3) k (by omega) (by omega) (by omega) (by omega) (by omega)) b1, BsR_same (kk 0 7 (by omega) (by omega) (by omega)) (kk 106 0 (by omega) (by omega) (by omega)) (fun k => kk 105 k (by omega) (by omega) (by omega)) (fun k => a10 48 k (by omega) (by omega) (by omega) (by omega) (by omega)) (fun k => a10 (48 + 3) k (by omega) (by omega) (by omega) (by omega) (by omega)) b2, a6, b4.ag (F.ag rfl), ?_⟩
        have q7 : ∀ k : Nat, k < 3 → M 7 k = gLay (σ 111 22) σ 7 k := fun k _ => kk 7 k (by omega) (by omega) (by omega)
        have q10 : ∀ k : Nat, k < 3 → M (7 + 3) k = gLay (σ 111 22) σ (7 + 3) k := fun k _ => kk _ k (by omega) (by omega) (by omega)
        have q48 : ∀ k : Nat, k < 3 → M 48 k = gLay (σ 111 22) σ 48 k := fun k _ => a10 48 k (by omega) (by omega) (by omega) (by omega) (by omega)
        have q51 : ∀ k : Nat, k < 3 → M (48 + 3) k = gLay (σ 111 22) σ (48 + 3) k := fun k _ => a10 _ k (by omega) (by omega) (by omega) (by omega) (by omega)
        have t48 : TbE M 7 48 := ta.cg h3G q7 q10 q48 q51
        exact ⟨t48, TbE.cg (TbE.rf (b := 7)) h3G q7 q10 a6b a6c, (ta.cg h3G a6b a6c q48 q51).sy⟩
      · exact (a10 0 7 (by omega) (by omega) (by omega) (by omega) (by omega)).trans (gLay_k (by omega) (by omega))
  · obtain ⟨τ, t1, -, t3, -, -⟩ := lay_ok (inv_thr (v := 0) h)
    have e22 : (upS σ 111 0 0) 111 22 = σ 111 22 := rfl
    rw [gLay_f e22] at t1
    obtain rfl := Option.some.inj t1
    refine ⟨0, σ, gLay (σ 111 22) (upS σ 111 0 0), ?_, ?_, t3, ?_⟩
    · unfold f_X_image
      rw [if_neg hp]
    · unfold f_M_image
      rw [xlet_s, gLay_f e22, xbR_s, m_isIn, if_neg (by omega), xbR_s, if_pos rfl]
    · rw [gLay_k (by omega) (by omega), upS_rd, if_neg (by omega)]
/-- the model's restore behind the class's -/
theorem res_run {σ : xSt} (h : Inv0 σ) {I kk : Nat} (hI : 27 ≤ I) (hI2 : I + 20 ≤ 88) (hk : kk < 2) (hi : Img (gLay (σ 111 22) σ) (I + 1) (I + 10) (I + 16) 116 (924 * kk) 119 (9 * kk) (gLay (σ 111 22) σ 116 (924 * kk + 2))) (hb : BsR (gLay (σ 111 22) σ) (I + 1)) (h120 : σ 120 kk ≠ 0) : ∃ σx M, f_State_copyFrom 6 I σ = some σx ∧ f_M_restore (kk : Int) σx = some (1, M) ∧ Img M 7 16 22 113 0 117 0 (M 113 2) ∧ (BsR M 7 ∧ (∀ k : Nat, k < 3 → M 7 k = gLay (σ 111 22) σ (I + 1) k) ∧ ∀ k : Nat, k < 3 → M (7 + 3) k = gLay (σ 111 22) σ (I + 1 + 3) k) ∧
    ∀ a q, (a < 7 ∨ 26 ≤ a) → a ≠ 113 → a ≠ 117 → (a = 111 → q ≠ 0) → M a q = gLay (σ 111 22) σ a q := by
  obtain ⟨σx, x1, x2, x3⟩ := x_cstate (a0 := 6) (a1 := I) (by omega) σ
  have kx : ∀ a q, (a < 7 ∨ 26 ≤ a) → (upS σx 111 0 0) a q = if a = 111 ∧ q = 0 then 0 else σ a q := fun a q ha => by
    rw [upS_rd]
    by_cases hz : a = 111 ∧ q = 0
    · rw [if_pos hz, if_pos hz]
    · rw [if_neg hz, if_neg hz, x3 a q (by omega)]
  have e22 : (upS σx 111 0 0) 111 22 = σ 111 22 := (kx 111 22 (by omega)).trans (if_neg (by omega))
  have kL : ∀ a q, (a < 7 ∨ 26 ≤ a) → (a = 111 → q ≠ 0) → gLay (σ 111 22) (upS σx 111 0 0) a q = gLay (σ 111 22) σ a q := by
    intro a q ha hq
    have h1 := (kx a q ha).trans (if_neg (fun z => hq z.1 z.2))
    exact gLay_cg h1
  have kI : ∀ a q, 7 ≤ a → a < 26 → gLay (σ 111 22) (upS σx 111 0 0) a q = σx a q := by
    intro a q h1 h2
    rw [gLay_k (fun z => by omega) (fun z => by omega), upS_rd, if_neg (by omega)]
  obtain ⟨M1, m1, m2, m3, m4⟩ := m_re31 hk 924 1000000 0 (gLay (σ 111 22) (upS σx 111 0 0)) (by omega) (by omega)
  obtain ⟨M2, n1, n2, n3, n4⟩ := m_re64 hk 9 1000000 0 M1 (by omega) (by omega)
  rw [c0n] at m1 n1
  have hkk : 0 ≤ (kk : Int) ∧ (kk : Int) < 2 := by omega
  have kM : ∀ a q, a ≠ 113 → a ≠ 117 → M2 a q = gLay (σ 111 22) (upS σx 111 0 0) a q := fun a q q1 q2 => by rw [n4 a q q2, m4 a q q1]
  have kMO : ∀ a q, (a < 7 ∨ 26 ≤ a) → a ≠ 113 → a ≠ 117 → (a = 111 → q ≠ 0) → M2 a q = gLay (σ 111 22) σ a q := fun a q h1 h2 h3 h5 => (kM a q h2 h3).trans (kL a q h1 h5)
  have k113 : ∀ k : Nat, k < 924 → M2 113 k = gLay (σ 111 22) σ 116 (924 * kk + k) := fun k hk => by
    rw [n4 _ _ (by omega), m2 k (by omega) hk]
    exact kL 116 _ (by omega) (by omega)
  have k117 : ∀ k : Nat, k < 9 → M2 117 k = gLay (σ 111 22) σ 119 (9 * kk + k) := fun k hk => by
    rw [n2 k (by omega) hk, m4 _ _ (by omega)]
    exact kL 119 _ (by omega) (by omega)
  have cp : CpS (gLay (σ 111 22) σ) M2 7 (I + 1) 16 (I + 10) 22 (I + 16) := by
    refine CpS.cg x2 (fun a k ha => gLay_k (fun z => ?_) (fun z => ?_)) (fun a k ha => ?_)
    · unfold inTWS at ha
      omega
    · unfold inTWS at ha
      omega
    · unfold inTWS at ha
      rw [kM a k (by omega) (by omega), kI a k (by omega) (by omega)]
  have e120 : gLay (σ 111 22) (upS σx 111 0 0) 120 kk ≠ 0 := by
    rw [kL 120 kk (by omega) (by omega), gLay_k (by omega) (by omega)]
    exact h120
  refine ⟨σx, M2, x1, ?_, ?_, ?_, kMO⟩
  · unfold f_M_restore
    rw [xlet_s, gLay_f e22, xbR_s, m_isIn, if_pos (by omega), xbR_s, if_neg (by decide), if_pos hkk, Int.toNat_natCast, if_neg e120, m1, n1]
  · rw [k113 2 (by omega)]
    refine Img_copy hi cp (fun k hk => ?_) (fun k hk => ?_)
    · rw [Nat.zero_add, k113 k hk]
    · rw [Nat.zero_add, k117 k hk]
  · refine ⟨?_, fun k hk => cp.1 k (by omega), fun k hk => (cp.2.1 k hk).2.2.1⟩
    refine BsR_copy hi.1.n3.1 (kMO 0 7 (by omega) (by omega) (by omega) (by omega)) (kMO 106 0 (by omega) (by omega) (by omega) (by omega)) (fun k _ _ => kMO 105 k (by omega) (by omega) (by omega) (by omega)) cp.1 (fun k hk => (cp.2.1 k hk).2.2.1) hb
def s_re : xZ := rng 7 19 ++ [(113, []), (117, []), (111, [0])]
theorem s_re_out {a k : Nat} (h : inS s_re a k = false) : (a < 7 ∨ 26 ≤ a) ∧ a ≠ 113 ∧ a ≠ 117 ∧ (a = 111 → k ≠ 0) := by
  unfold s_re at h
  rw [inS_app] at h
  simp only [Bool.or_eq_false_iff] at h
  obtain ⟨h1, h2⟩ := h
  refine ⟨?_, ?_, ?_, ?_⟩
  · by_cases hc : a < 7 ∨ 26 ≤ a
    · exact hc
    · rw [inS_rng (lo := 7) (n := 19) (by omega) (by omega)] at h1
      cases h1
  · rintro rfl
    cases h2
  · rintro rfl
    cases h2
  · rintro rfl rfl
    cases h2
theorem sim_restore {n : Nat} : ∀ p1 : Int, in32 p1 → SimW (InvN (n + 1)) (InvN n) (f_X_restore p1) (f_M_restore p1) := by
  intro p1 _
  refine simW0 (fun σ h => ?_)
  obtain ⟨σL, hl, -, hIG, h22, hop⟩ := lay_ok h
  obtain rfl : gLay (σ 111 22) σ = σL := Option.some.inj ((gLay_f rfl).symm.trans hl)
  have e22 : (upS σ 111 0 0) 111 22 = σ 111 22 := rfl
  have hIn : Inv0 (gLay (σ 111 22) (upS σ 111 0 0)) := by
    obtain ⟨τ, t1, -, t3, -, -⟩ := lay_ok (inv_thr (v := 0) h)
    rw [gLay_f e22] at t1
    obtain rfl := Option.some.inj t1
    exact t3
  have g7 : gLay (σ 111 22) (upS σ 111 0 0) 0 7 = σ 0 7 := by rw [gLay_k (by omega) (by omega), upS_rd, if_neg (by omega)]
  have fin : ∀ M : xSt, Img M 7 16 22 113 0 117 0 (M 113 2) → BsR M 7 → TbE M 7 48 → TbE M 7 68 → (∀ a q, (a < 7 ∨ 26 ≤ a) → a ≠ 113 → a ≠ 117 → (a = 111 → q ≠ 0) → M a q = gLay (σ 111 22) σ a q) → Inv0 M ∧ M 0 7 = σ 0 7 := by
    intro M im bs te1 te2 a10
    have F : Fr s_re (gLay (σ 111 22) σ) M := fun a k hk => by
      obtain ⟨z1, z2, z3, z4⟩ := s_re_out hk
      exact a10 a k z1 z2 z3 z4
    have m22 : M 111 22 ≠ 0 := by
      rw [a10 111 22 (by omega) (by omega) (by omega) (by omega)]
      exact h22
    have hopM : opM M = M 113 2 := by
      unfold opM
      rw [if_neg m22]
    rw [← hopM] at im
    obtain ⟨p1, p2, p3, p4, p5, p6, p7, p8⟩ := hIG
    obtain ⟨b1, b2, b3, b4, ta, tb, tc⟩ := p8.of
    have kk : ∀ a k : Nat, a < 7 ∨ 26 ≤ a → a < 111 → M a k = gLay (σ 111 22) σ a k := fun a k z1 z2 => a10 a k (by omega) (by omega) (by omega) (by omega)
    refine ⟨⟨p1.ag (F.ag rfl), ⟨im.1, fun z => absurd z m22⟩, ⟨im.2.1, fun z => absurd z m22⟩, ⟨im.2.2, fun z => absurd z m22⟩, p5.ag (F.ag rfl), p6.ag (F.ag rfl), p7.ag (F.ag rfl), C_best.mk ⟨bs, BsR_same (kk 0 7 (by omega) (by omega)) (kk 106 0 (by omega) (by omega)) (fun k => kk 105 k (by omega) (by omega)) (fun k => kk 48 k (by omega) (by omega)) (fun k => kk (48 + 3) k (by omega) (by omega)) b2, BsR_same (kk 0 7 (by omega) (by omega)) (kk 106 0 (by omega) (by omega)) (fun k => kk 105 k (by omega) (by omega)) (fun k => kk 68 k (by omega) (by omega)) (fun k => kk (68 + 3) k (by omega) (by omega)) b3, b4.ag (F.ag rfl), te1, te2, ?_⟩⟩, ?_⟩
    · have e : ∀ k, M 48 k = gLay (σ 111 22) σ 48 k := fun k => kk 48 k (by omega) (by omega)
      have e3 : ∀ k, M (48 + 3) k = gLay (σ 111 22) σ (48 + 3) k := fun k => kk _ k (by omega) (by omega)
      have e' : ∀ k, M 68 k = gLay (σ 111 22) σ 68 k := fun k => kk 68 k (by omega) (by omega)
      have e3' : ∀ k, M (68 + 3) k = gLay (σ 111 22) σ (68 + 3) k := fun k => kk _ k (by omega) (by omega)
      intro h0
      rw [e, e'] at h0
      obtain ⟨z1, z2, z3⟩ := tc h0
      rw [e, e, e', e']
      exact ⟨z1, z2, fun t ht => by rw [e3, e3']; exact z3 t ht⟩
    · exact (kk 0 7 (by omega) (by omega)).trans (gLay_k (by omega) (by omega))
  have no : ∀ kk : Nat, kk < 2 → p1 = (kk : Int) → σ 120 kk = 0 → f_M_restore p1 σ = some (0, gLay (σ 111 22) (upS σ 111 0 0)) := by
    intro kk hk hp h0
    unfold f_M_restore
    rw [xlet_s, gLay_f e22, xbR_s, m_isIn, if_pos (by omega), xbR_s, if_neg (by decide), if_pos (by omega), hp, Int.toNat_natCast, if_pos (by rw [gLay_k (by omega) (by omega), upS_rd, if_neg (by omega), h0])]
  have i47 : gLay (σ 111 22) σ 47 3 = σ 47 3 := gLay_k (by omega) (by omega)
  have i67 : gLay (σ 111 22) σ 67 3 = σ 67 3 := gLay_k (by omega) (by omega)
  have i120 : ∀ k, gLay (σ 111 22) σ 120 k = σ 120 k := fun k => gLay_k (by omega) (by omega)
  by_cases hp : 0 ≤ p1 ∧ p1 < 2
  · by_cases h0 : p1 = 0
    · rcases hIG.2.2.2.2.1.of.1 with ⟨z1, z2⟩ | ⟨z1, z2, z3⟩
      · rw [i47] at z1
        rw [i120] at z2
        refine ⟨0, σ, _, ?_, no 0 (by decide) h0 z2, hIn, g7⟩
        unfold f_X_restore
        rw [if_pos hp, if_pos h0, if_pos z1]
      · obtain ⟨σx, M, a1, a2, a3, a4, a5⟩ := res_run h (I := 47) (kk := 0) (by decide) (by decide) (by decide) z3 hIG.2.2.2.2.2.2.2.of.2.1 (by rw [← i120, z2]; decide)
        obtain ⟨a4, a4b, a4c⟩ := a4
        have q68 : ∀ k : Nat, k < 3 → M 68 k = gLay (σ 111 22) σ 68 k := fun k _ => a5 68 k (by omega) (by omega) (by omega) (by omega)
        have q71 : ∀ k : Nat, k < 3 → M (68 + 3) k = gLay (σ 111 22) σ (68 + 3) k := fun k _ => a5 _ k (by omega) (by omega) (by omega) (by omega)
        have q48 : ∀ k : Nat, k < 3 → M 48 k = gLay (σ 111 22) σ 48 k := fun k _ => a5 48 k (by omega) (by omega) (by omega) (by omega)
        have q51 : ∀ k : Nat, k < 3 → M (48 + 3) k = gLay (σ 111 22) σ (48 + 3) k := fun k _ => a5 _ k (by omega) (by omega) (by omega) (by omega)
        obtain ⟨f1, f2⟩ := fin M a3 a4 (TbE.cg (TbE.rf (b := 48)) z3.1.n3.1 a4b a4c q48 q51) (hIG.2.2.2.2.2.2.2.of.2.2.2.2.2.2.cg z3.1.n3.1 a4b a4c q68 q71) a5
        refine ⟨1, σx, M, ?_, by rw [h0]; exact a2, f1, f2⟩
        unfold f_X_restore
        rw [if_pos hp, if_pos h0, if_neg (by rw [← i47, z1]; decide), a1, xbR_s]
    · have h1 : p1 = 1 := by omega
      rcases hIG.2.2.2.2.1.of.2 with ⟨z1, z2⟩ | ⟨z1, z2, z3⟩
      · rw [i67] at z1
        rw [i120] at z2
        refine ⟨0, σ, _, ?_, no 1 (by decide) h1 z2, hIn, g7⟩
        unfold f_X_restore
        rw [if_pos hp, if_neg h0, if_pos z1]
      · obtain ⟨σx, M, a1, a2, a3, a4, a5⟩ := res_run h (I := 67) (kk := 1) (by decide) (by decide) (by decide) z3 hIG.2.2.2.2.2.2.2.of.2.2.1 (by rw [← i120, z2]; decide)
        obtain ⟨a4, a4b, a4c⟩ := a4
        have q68 : ∀ k : Nat, k < 3 → M 68 k = gLay (σ 111 22) σ 68 k := fun k _ => a5 68 k (by omega) (by omega) (by omega) (by omega)
        have q71 : ∀ k : Nat, k < 3 → M (68 + 3) k = gLay (σ 111 22) σ (68 + 3) k := fun k _ => a5 _ k (by omega) (by omega) (by omega) (by omega)
        have q48 : ∀ k : Nat, k < 3 → M 48 k = gLay (σ 111 22) σ 48 k := fun k _ => a5 48 k (by omega) (by omega) (by omega) (by omega)
        have q51 : ∀ k : Nat, k < 3 → M (48 + 3) k = gLay (σ 111 22) σ (48 + 3) k := fun k _ => a5 _ k (by omega) (by omega) (by omega) (by omega)
        obtain ⟨f1, f2⟩ := fin M a3 a4 (hIG.2.2.2.2.2.2.2.of.2.2.2.2.2.2.sy.cg z3.1.n3.1 a4b a4c q48 q51) (TbE.cg (TbE.rf (b := 68)) z3.1.n3.1 a4b a4c q68 q71) a5
        refine ⟨1, σx, M, ?_, by rw [h1]; exact a2, f1, f2⟩
        unfold f_X_restore
        rw [if_pos hp, if_neg h0, if_neg (by rw [← i67, z1]; decide), a1, xbR_s]
  · refine ⟨0, σ, gLay (σ 111 22) (upS σ 111 0 0), ?_, ?_, hIn, g7⟩
    · unfold f_X_restore
      rw [if_neg hp]
    · unfold f_M_restore
      rw [xlet_s, gLay_f e22, xbR_s, m_isIn, if_neg (by omega), xbR_s, if_pos rfl]
