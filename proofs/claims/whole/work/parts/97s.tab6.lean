/-! TABLES: the call -/
theorem ThD_fin {σ τ M : xSt} {op : Int} {cs t : Nat} (h : ThD σ τ op cs t) (ht : t < 3) (h1 : M 8 t = σ 28 t) (h2 : M 9 t = xnb (σ 29 t)) (h3 : M 10 t = σ 30 t) (h4 : M 11 t = σ 31 t) (h5 : ∀ k : Nat, k < 18 → M 12 k = σ 32 k) (hR : ∀ q : Nat, 4 ≤ q → q < 41 → M 113 q = τ 114 q) (hN : ∀ q : Nat, q < 9 → M 117 q = τ 118 q) (hcs : τ 114 40 = (cs : Int)) : ThR M 7 113 0 117 0 op t := by
  obtain ⟨a1, a2, a3, a4, a5, a6, a7, a8, a9, a10, a11, a12⟩ := h
  have k1 : M (7 + 1) t = σ 28 t := h1
  have k2 : M (7 + 2) t = σ 29 t := by
    show M 9 t = σ 29 t
    rw [h2]
    exact xnb_b (by omega)
  have k3 : M (7 + 3) t = σ 30 t := h3
  have k4 : M (7 + 4) t = σ 31 t := h4
  have k5 : ∀ k : Nat, k < 18 → M (7 + 5) k = σ 32 k := h5
  have r4 : M 113 (0 + 4 + 8 * t) = τ 114 (4 + 8 * t) := by rw [show 0 + 4 + 8 * t = 4 + 8 * t by omega, hR _ (by omega) (by omega)]
  have r5 : M 113 (0 + 5 + 8 * t) = τ 114 (5 + 8 * t) := by rw [show 0 + 5 + 8 * t = 5 + 8 * t by omega, hR _ (by omega) (by omega)]
  have r6 : ∀ s : Nat, s < 6 → M 113 (0 + 6 + 8 * t + s) = τ 114 (6 + 8 * t + s) := fun s hs => by rw [show 0 + 6 + 8 * t + s = 6 + 8 * t + s by omega, hR _ (by omega) (by omega)]
  have r40 : M 113 (0 + 40) = (cs : Int) := by rw [show 0 + 40 = 40 from rfl, hR 40 (by decide) (by decide), hcs]
  have n1 : M 117 (0 + t) = τ 118 t := by rw [Nat.zero_add, hN t (by omega)]
  unfold ThR
  rw [k1, k2, k3, k4, r4, r5, r40, n1]
  refine ⟨a1, a2, a3, a4, a5, a6, fun s hs => ?_, a8, a9, a10, fun z => ?_, fun z => ?_⟩
  · rw [k5 _ (by omega), r6 s (by omega)]
    exact a7 s hs
  · rw [k5 _ (by omega), k5 _ (by omega)]
    exact a11 z
  · obtain ⟨b1, b2⟩ := a12 z
    exact ⟨b1, b2.trans (psum_cg _ (fun s hs => (k5 _ (by omega)).symm))⟩
theorem EnD_fin {σ τ M : xSt} {e : Nat} (h : EnD σ τ e) (he : e < 6) (h1 : M 13 e = σ 33 e) (h2 : M 14 e = σ 34 e) (h3 : M 15 e = σ 35 e) (hR : ∀ q : Nat, 4 ≤ q → q < 41 → M 113 q = τ 114 q) (hN : ∀ q : Nat, q < 9 → M 117 q = τ 118 q) : EnR M 7 113 0 117 0 e := by
  have k1 : M (7 + 6) e = σ 33 e := h1
  have k2 : M (7 + 7) e = σ 34 e := h2
  have k3 : M (7 + 8) e = σ 35 e := h3
  have r1 : M 113 (0 + 28 + 2 * e) = τ 114 (28 + 2 * e) := by rw [show 0 + 28 + 2 * e = 28 + 2 * e by omega, hR _ (by omega) (by omega)]
  have r2 : M 113 (0 + 29 + 2 * e) = τ 114 (29 + 2 * e) := by rw [show 0 + 29 + 2 * e = 29 + 2 * e by omega, hR _ (by omega) (by omega)]
  have n1 : M 117 (0 + 3 + e) = τ 118 (3 + e) := by rw [show 0 + 3 + e = 3 + e by omega, hN _ (by omega)]
  unfold EnR
  rw [k1, k2, k3, r1, r2, n1]
  exact h
def S_tt : xZ := [(0, [17, 18]), (96, [6]), (97, []), (99, [1]), (100, []), (102, [1]), (110, []), (111, [43, 45, 48, 66, 69]), (124, []), (127, []), (136, [])]
theorem told_t {G M : xSt} (hp : C_told G) (ha : Ag S_tt G M) (h1 : M 0 3 = M 111 10) (h7 : M 0 7 = M 111 23) (hi : in32 (M 0 7)) : C_told M := by
  obtain ⟨-, -, -, a4, a5, a6, a7, a8⟩ := hp
  have e1 : ∀ k, M 100 k = G 100 k := fun k => ha 100 k rfl
  have e2 : ∀ k, M 127 k = G 127 k := fun k => ha 127 k rfl
  have e3 : ∀ k, M 110 k = G 110 k := fun k => ha 110 k rfl
  have e4 : ∀ k, M 136 k = G 136 k := fun k => ha 136 k rfl
  have e5 : ∀ k, M 97 k = G 97 k := fun k => ha 97 k rfl
  have e6 : ∀ k, M 124 k = G 124 k := fun k => ha 124 k rfl
  refine ⟨h1, h7, hi, ?_, ?_, ?_, ?_, ?_⟩
  · simp only [e5, e6]
    rw [ha 96 6 rfl]
    exact a4
  · simp only [e1, e2]
    rw [ha 111 45 rfl, ha 99 1 rfl, ha 111 43 rfl]
    exact a5
  · rw [ha 102 1 rfl, ha 111 48 rfl]; exact a6
  · rw [ha 0 18 rfl, ha 111 69 rfl]; exact a7
  · simp only [e3, e4]
    rw [ha 0 17 rfl, ha 111 66 rfl]
    exact a8
def S_bt : xZ := [(48, []), (51, []), (68, []), (71, []), (105, [1, 2, 3, 4]), (106, []), (111, [58, 59, 60, 61]), (133, []), (135, [])]
theorem best_t {G M : xSt} (hp : C_best G) (ha : Ag S_bt G M) (h7 : M 0 7 = G 0 7 + 1) (h70 : M 7 0 = M 0 7) : C_best M := by
  obtain ⟨⟨b1, b2, -⟩, ⟨b4, b5, b6⟩, ⟨b7, b8, b9⟩, hm, t1, t2, t3⟩ := hp
  have e48 : ∀ k, M 48 k = G 48 k := fun k => ha 48 k rfl
  have e51 : ∀ k, M 51 k = G 51 k := fun k => ha 51 k rfl
  have e68 : ∀ k, M 68 k = G 68 k := fun k => ha 68 k rfl
  have e71 : ∀ k, M 71 k = G 71 k := fun k => ha 71 k rfl
  have e106 : ∀ k, M 106 k = G 106 k := fun k => ha 106 k rfl
  have e135 : ∀ k, M 135 k = G 135 k := fun k => ha 135 k rfl
  have e133 : ∀ k, M 133 k = G 133 k := fun k => ha 133 k rfl
  have c1 : M 105 1 = G 105 1 := ha 105 1 rfl
  have c2 : M 105 2 = G 105 2 := ha 105 2 rfl
  have c3 : M 105 3 = G 105 3 := ha 105 3 rfl
  have c4 : M 105 4 = G 105 4 := ha 105 4 rfl
  refine ⟨⟨by omega, by omega, fun z1 z2 => ?_⟩, ⟨?_, ?_, ?_⟩, ⟨?_, ?_, ?_⟩, ?_, ?_, ?_, ?_⟩
  · exfalso
    rw [e106] at z1
    rcases hm with ⟨y1, y2⟩ | ⟨y1, y2, y3, y4, y5, -⟩
    · omega
    · omega
  · rw [e48]; exact b4
  · rw [e48]; omega
  · intro z1 z2
    rw [e106] at z1
    rw [e48, c1] at z2
    unfold CnR at b6 ⊢
    have e51' : ∀ k, M (48 + 3) k = G (48 + 3) k := e51
    simp only [e48, e51', c2, c3, c4]
    exact b6 z1 z2
  · rw [e68]; exact b7
  · rw [e68]; omega
  · intro z1 z2
    rw [e106] at z1
    rw [e68, c1] at z2
    unfold CnR at b9 ⊢
    have e71' : ∀ k, M (68 + 3) k = G (68 + 3) k := e71
    simp only [e68, e71', c2, c3, c4]
    exact b9 z1 z2
  · rw [e106, e106, e106, ha 111 58 rfl, ha 111 59 rfl, ha 111 60 rfl, ha 111 61 rfl, c1, c2, c3, c4, e133, e133, e133]
    unfold LfR at hm ⊢
    simp only [e135]
    rcases hm with z | ⟨y1, y2, y3, y4, y5, y6⟩
    · exact Or.inl z
    · exact Or.inr ⟨y1, y2, y3, y4, by omega, y6⟩
  · intro z
    rw [e48] at z
    omega
  · intro z
    rw [e68] at z
    omega
  · unfold TbE at t3 ⊢
    have e51' : ∀ k, M (48 + 3) k = G (48 + 3) k := e51
    have e71' : ∀ k, M (68 + 3) k = G (68 + 3) k := e71
    simp only [e48, e68, e51', e71']
    exact t3
