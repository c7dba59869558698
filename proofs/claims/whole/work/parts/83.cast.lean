/-! casts -/
theorem xushr8 (x : Int) : ∃ r : Nat, xushr x 8 = (r : Int) ∧ r < 16777216 := by
  refine ⟨((Int32.ofInt x).toUInt32 >>> ((Int32.ofInt 8).toUInt32 &&& Int32.toUInt32 31)).toNat, ?_, ?_⟩
  · have h1 : ((Int32.ofInt x).toUInt32 >>> ((Int32.ofInt 8).toUInt32 &&& Int32.toUInt32 31)).toNat = (Int32.ofInt x).toUInt32.toNat >>> 8 := by
      rw [UInt32.toNat_shiftRight]
      rfl
    have h2 : (Int32.ofInt x).toUInt32.toNat < 4294967296 := UInt32.toNat_lt _
    have h3 : (Int32.ofInt x).toUInt32.toNat >>> 8 < 16777216 := by
      rw [Nat.shiftRight_eq_div_pow]
      omega
    unfold xushr o32
    show (((Int32.ofInt x).toUInt32 >>> ((Int32.ofInt 8).toUInt32 &&& Int32.toUInt32 31)).toInt32.toBitVec).toInt = _
    rw [UInt32.toBitVec_toInt32]
    exact BitVec.toInt_eq_toNat_of_lt (show 2 * ((Int32.ofInt x).toUInt32 >>> ((Int32.ofInt 8).toUInt32 &&& Int32.toUInt32 31)).toNat < 2 ^ 32 by omega)
  · have h2 : (Int32.ofInt x).toUInt32.toNat < 4294967296 := UInt32.toNat_lt _
    rw [UInt32.toNat_shiftRight]
    show (Int32.ofInt x).toUInt32.toNat >>> 8 < 16777216
    rw [Nat.shiftRight_eq_div_pow]
    omega
theorem mod_num (r : Nat) {A : Nat} (h1 : 1 ≤ A) (h9 : A ≤ 9) : (0 : Int) ≤ ((r % A : Nat) : Int) ∧ ((r % A : Nat) : Int) < 100 ∧ 0 + ((r % A : Nat) : Int) < (A : Int) := by
  have h : r % A < A := Nat.mod_lt _ h1
  omega
/-- how a model's throw goes on -/
def mGo (K : Int → Int → xSt → Option (Int × xSt)) (l1 l3 s : Int) (τ : xSt) : Option (Int × xSt) :=
  xlet (upS τ 111 68 (w32 ((τ 111 68) + 1))) fun σ11 =>
    xbR (f_M_nextOf l3 s σ11) fun r12 =>
    xbR (f_M_sortOf r12 σ11) fun r13 =>
    if r13 = 1 then (K l1 0 σ11)
    else (K l1 r12 σ11)
theorem sod_lock {σ τ : xSt} {p : Nat → Int} {t N : Nat} {l1 l3 : Int} {K : Int → Int → xSt → Option (Int × xSt)} (h6 : N ≤ 6) (hp : ∀ s : Nat, s < N → 0 ≤ p s ∧ p s ≤ 9) (hx : ∀ s : Nat, s < N → f_Table_partsOf (t : Int) (s : Int) σ = some (p s)) (hm : ∀ s : Nat, s < N → f_M_sideOf (t : Int) (s : Int) τ = some (p s)) :
    ∀ (j n1 n2 s : Nat) (left : Int), s + j = N → j ≤ n1 → j ≤ n2 → 0 ≤ left → left < 100 → psum p s + left < psum p N → ∃ s2 : Nat, s2 < N ∧ f_Table_sideOfDraw_21 n1 (t : Int) left (s : Int) σ = some (s2 : Int) ∧ f_M_castBy_56 K n2 l1 l3 (t : Int) left (s : Int) τ = mGo K l1 l3 (s2 : Int) τ := by
  intro j
  induction j with
  | zero =>
    intro n1 n2 s left h1 _ _ h2 h3 h4
    have hs : s = N := by omega
    rw [hs] at h4
    omega
  | succ j ih =>
    intro n1 n2 s left h1 hn1 hn2 h2 h3 h4
    obtain ⟨n1, rfl⟩ : ∃ n, n1 = n + 1 := ⟨n1 - 1, by omega⟩
    obtain ⟨n2, rfl⟩ : ∃ n, n2 = n + 1 := ⟨n2 - 1, by omega⟩
    have hs : s < N := by omega
    have b3 : s < 100000 := by omega
    have q := hp s hs
    have ps : psum p (s + 1) = psum p s + p s := rfl
    by_cases hl : left < p s
    · refine ⟨s, hs, ?_, ?_⟩
      · rw [f_Table_sideOfDraw_21.eq_2]
        by_cases h5 : (s : Int) < 5
        · rw [if_pos h5, hx s hs, xbR_s, if_pos hl]
        · rw [if_neg h5]
      · rw [f_M_castBy_56.eq_2, hm s hs, xbR_s, if_pos hl]
        rfl
    · have e1 : w32 (left - p s) = left - p s := w32_o (by omega) (by omega)
      have hsN : s + 1 < N := by
        by_cases hz : s + 1 = N
        · rw [← hz, ps] at h4
          omega
        · omega
      obtain ⟨s2, a1, a2, a3⟩ := ih n1 n2 (s + 1) (left - p s) (by omega) (by omega) (by omega) (by omega) (by omega) (by rw [ps]; omega)
      refine ⟨s2, a1, ?_, ?_⟩
      · rw [f_Table_sideOfDraw_21.eq_2, if_pos (by omega), hx s hs, xbR_s, if_neg hl, xbR_s, e1, xlet_s, w32_n1 b3, xlet_s]
        exact a2
      · rw [f_M_castBy_56.eq_2, hm s hs, xbR_s, if_neg hl, xbR_s, e1, xlet_s, w32_n1 b3, xlet_s]
        exact a3
theorem cast_run {σ0 : xSt} (h : Inv0 σ0) (hno : ∀ i : Nat, (i : Int) < σ0 16 0 → σ0 17 i = 2 → σ0 18 i ≠ σ0 7 3) {most : Nat} (hm : most ≤ 400) : ∀ (j n1 n2 c k : Nat) (x : Int) (σ τ : xSt), c + j = most → j < n1 → j < n2 → (∀ a q, 7 ≤ a → a ≤ 21 → σ a q = σ0 a q) → (∀ q, τ 113 q = σ0 113 q) → σ 0 18 = (c : Int) → τ 111 68 = (c : Int) → τ 111 67 = x → (k : Int) < σ0 16 0 →
    ∃ (v : Int) (c2 : Nat) (σ' τ' : xSt), f_X_castOnce_10 n1 (most : Int) x (k : Int) σ = some (v, σ') ∧ f_M_castBy_12 n2 (most : Int) (k : Int) τ = some (v, τ') ∧ σ' 0 18 = (c2 : Int) ∧ τ' 111 68 = (c2 : Int) ∧ (∀ a q, (a = 0 → q ≠ 18) → σ' a q = σ a q) ∧ ∀ a q, (a = 111 → q ≠ 67 ∧ q ≠ 68) → τ' a q = τ a q := by
  have h80 := h.nodes
  have ht := h.things
  have stop : ∀ (n1 n2 c k : Nat) (x : Int) (σ τ : xSt), (∀ a q, 7 ≤ a → a ≤ 21 → σ a q = σ0 a q) → (∀ q, τ 113 q = σ0 113 q) → σ 0 18 = (c : Int) → τ 111 68 = (c : Int) → (k : Int) < σ0 16 0 → (c = most ∨ c < most ∧ σ0 17 k ≠ 2) →
      ∃ (v : Int) (c2 : Nat) (σ' τ' : xSt), f_X_castOnce_10 (n1 + 1) (most : Int) x (k : Int) σ = some (v, σ') ∧ f_M_castBy_12 (n2 + 1) (most : Int) (k : Int) τ = some (v, τ') ∧ σ' 0 18 = (c2 : Int) ∧ τ' 111 68 = (c2 : Int) ∧ (∀ a q, (a = 0 → q ≠ 18) → σ' a q = σ a q) ∧ ∀ a q, (a = 111 → q ≠ 67 ∧ q ≠ 68) → τ' a q = τ a q := by
    intro n1 n2 c k x σ τ e1 e2 e3 e4 hk hor
    have hd := h.nd (p := (k : Int)) (by omega) hk
    rw [Int.toNat_natCast] at hd
    have e16 : σ 16 0 = σ0 16 0 := e1 16 0 (by omega) (by omega)
    have e17 : σ 17 k = σ0 17 k := e1 17 k (by omega) (by omega)
    have e18 : σ 18 k = σ0 18 k := e1 18 k (by omega) (by omega)
    have c1 : 0 ≤ (k : Int) ∧ (k : Int) < σ 16 0 := by omega
    have X1 : f_Way_sortAt (k : Int) σ = some (σ0 17 k) := by rw [x_sortAt (by omega), if_pos c1, Int.toNat_natCast, e17]
    have X2 : f_Way_whichAt (k : Int) σ = some (σ0 18 k) := by rw [x_whichAt (by omega), if_pos c1, Int.toNat_natCast, e18]
    have M1 : f_M_sortOf (k : Int) τ = some (σ0 17 k) := by rw [m_sortOf (by omega) (by omega), Int.toNat_natCast, e2, hd.1]
    have M2 : f_M_whichOf (k : Int) τ = some (σ0 18 k) := by rw [m_whichOf (by omega) (by omega), Int.toNat_natCast, e2, hd.2.1]
    have hX : f_X_castOnce_10 (n1 + 1) (most : Int) x (k : Int) σ = some (if σ0 17 k = 0 then σ0 18 k else -1, σ) := by
      have h101 : f_X_castOnce_101 (k : Int) σ = some (if σ0 17 k = 0 then σ0 18 k else -1, σ) := by
        unfold f_X_castOnce_101 f_Way_endAt
        rw [X1, xbR_s]
        by_cases hz : σ0 17 k = 0
        · rw [if_pos hz, if_pos hz, X2, xbR_s, xbR_s]
        · rw [if_neg hz, if_neg hz, xbR_s]
      rw [f_X_castOnce_10.eq_2, e3]
      rcases hor with z | ⟨z, z2⟩
      · rw [if_neg (by omega), h101]
      · rw [if_pos (by omega), X1, xbR_s, if_neg z2, h101]
    refine ⟨_, c, σ, τ, hX, ?_, e3, e4, fun _ _ _ => rfl, fun _ _ _ => rfl⟩
    rw [f_M_castBy_12.eq_2, M1, xbR_s]
    by_cases hz : σ0 17 k = 2
    · rw [if_pos hz, e4]
      rcases hor with z | ⟨-, z2⟩
      · rw [if_pos (by omega), if_neg (by omega)]
      · exact absurd hz z2
    · rw [if_neg hz, xbR_s]
      by_cases hz : σ0 17 k = 0
      · rw [if_pos hz, if_pos hz, M2, xbR_s]
      · rw [if_neg hz, if_neg hz]
  intro j
  induction j with
  | zero =>
    intro n1 n2 c k x σ τ h1 hn1 hn2 e1 e2 e3 e4 e5 hk
    obtain ⟨n1, rfl⟩ : ∃ n, n1 = n + 1 := ⟨n1 - 1, by omega⟩
    obtain ⟨n2, rfl⟩ : ∃ n, n2 = n + 1 := ⟨n2 - 1, by omega⟩
    exact stop n1 n2 c k x σ τ e1 e2 e3 e4 hk (Or.inl (by omega))
  | succ j ih =>
    intro n1 n2 c k x σ τ h1 hn1 hn2 e1 e2 e3 e4 e5 hk
    obtain ⟨n1, rfl⟩ : ∃ n, n1 = n + 1 := ⟨n1 - 1, by omega⟩
    obtain ⟨n2, rfl⟩ : ∃ n, n2 = n + 1 := ⟨n2 - 1, by omega⟩
    by_cases hs : σ0 17 k = 2
    · have hd := h.nd (p := (k : Int)) (by omega) hk
      rw [Int.toNat_natCast] at hd
      have e16 : σ 16 0 = σ0 16 0 := e1 16 0 (by omega) (by omega)
      have e17 : ∀ i, σ 17 i = σ0 17 i := fun i => e1 17 i (by omega) (by omega)
      have e18 : σ 18 k = σ0 18 k := e1 18 k (by omega) (by omega)
      have e71 : σ 7 1 = σ0 7 1 := e1 7 1 (by omega) (by omega)
      have c1 : 0 ≤ (k : Int) ∧ (k : Int) < σ 16 0 := by omega
      have X1 : f_Way_sortAt (k : Int) σ = some (σ0 17 k) := by rw [x_sortAt (by omega), if_pos c1, Int.toNat_natCast, e17]
      have X2 : f_Way_whichAt (k : Int) σ = some (σ0 18 k) := by rw [x_whichAt (by omega), if_pos c1, Int.toNat_natCast, e18]
      have M1 : f_M_sortOf (k : Int) τ = some (σ0 17 k) := by rw [m_sortOf (by omega) (by omega), Int.toNat_natCast, e2, hd.1]
      have M2 : f_M_whichOf (k : Int) τ = some (σ0 18 k) := by rw [m_whichOf (by omega) (by omega), Int.toNat_natCast, e2, hd.2.1]
      obtain ⟨t, ht2⟩ : ∃ t : Nat, σ0 18 k = (t : Int) := ⟨(σ0 18 k).toNat, by omega⟩
      have ht3 : (t : Int) < σ0 7 1 := by omega
      have hth := h.th (p := (t : Int)) (by omega) ht3
      rw [Int.toNat_natCast] at hth
      obtain ⟨u1, u2, u3, u4, u5, u6, u7, -, -, -, -, u12⟩ := hth
      have hop : σ0 7 3 ≠ (t : Int) := fun z => hno k hk hs (by rw [ht2, z])
      obtain ⟨u13, u14⟩ := u12 hop
      obtain ⟨N, hN⟩ : ∃ N : Nat, σ0 10 t = (N : Int) := ⟨(σ0 10 t).toNat, by omega⟩
      obtain ⟨A, hA⟩ : ∃ A : Nat, σ0 11 t = (A : Int) := ⟨(σ0 11 t).toNat, by omega⟩
      rw [hN, Int.toNat_natCast] at u14
      have ct : 0 ≤ (t : Int) ∧ (t : Int) < σ 7 1 := by omega
      have hall : f_Table_allParts (t : Int) σ = some (A : Int) := by rw [x_allParts (by omega), if_pos ct, Int.toNat_natCast, e1 11 t (by omega) (by omega), hA]
      have mall : f_M_partsOf (t : Int) τ = some (A : Int) := by rw [m_partsOf (by omega) (by omega), Int.toNat_natCast, e2, ← u4, hA]
      have hA1 : 1 ≤ A := by omega
      have hA9 : A ≤ 9 := by omega
      have hA0 : ¬ (A : Int) = 0 := by omega
      have hAl : ¬ (A : Int) < 1 := by omega
      have n6 : N ≤ 6 := by omega
      have nj : N < 1000000 := by omega
      have tN : ∀ s : Nat, s < N → 0 ≤ (t : Int) ∧ (t : Int) < 3 ∧ 0 ≤ (s : Int) ∧ (s : Int) < 6 ∧ (s : Int) < σ0 10 t := fun s hs => by omega
      have tx : ∀ s : Nat, s < N → (0 ≤ (t : Int) ∧ (t : Int) < σ 7 1) ∧ 0 ≤ (s : Int) ∧ (s : Int) < 6 := fun s hs => by omega
      have ts : σ 7 1 ≤ 3 := by omega
      have b3 : c < 100000 := by omega
      have ps0 : psum (fun s => σ0 12 (6 * t + s)) 0 = 0 := Eq.trans rfl rfl
      obtain ⟨r, hr1, hr2⟩ := xushr8 (w32 (w32 (x * 1103515245) + 12345))
      have cx : xrem (r : Int) (A : Int) = ((r % A : Nat) : Int) := xrem_n (Nat.lt_trans hr2 (by decide))
      obtain ⟨num1, num2, num3⟩ := mod_num r hA1 hA9
      have τd : f_M_draw (A : Int) τ = some (((r % A : Nat) : Int), upS τ 111 67 (w32 (w32 (x * 1103515245) + 12345))) := by
        unfold f_M_draw
        rw [e5, xlet_s, if_neg hA0, upS_eq, hr1, cx]
      have e2' : ∀ q, (upS τ 111 67 (w32 (w32 (x * 1103515245) + 12345))) 113 q = σ0 113 q := fun q => by rw [upS_ne (by decide), e2]
      obtain ⟨s, s1, s2, s3⟩ := sod_lock (σ := σ) (τ := upS τ 111 67 (w32 (w32 (x * 1103515245) + 12345))) (p := fun s => σ0 12 (6 * t + s)) (t := t) (N := N) (l1 := (most : Int)) (l3 := (k : Int)) (K := fun z0 z1 sz => f_M_castBy_12 n2 z0 z1 sz) n6 (fun s hs => (u7 s (tN s hs).2.2.2.2).2) (fun s hs => by
          rw [x_partsOf ts, if_pos (tx s hs), Int.toNat_natCast, Int.toNat_natCast, e1 12 _ (by decide) (by decide)]) (fun s hs => by
          obtain ⟨w1, w2, w3, w4, w5⟩ := tN s hs
          rw [m_sideOf w1 w2 w3 w4, Int.toNat_natCast, Int.toNat_natCast, e2', (u7 s w5).1]) N 1000000 1000000 0 ((r % A : Nat) : Int) (Nat.zero_add N) (Nat.le_of_lt nj) (Nat.le_of_lt nj) num1 num2 (by
          rw [ps0, ← u14, hA]
          exact num3)
      rw [c0n] at s2 s3
      obtain ⟨g, g1, g2, g3⟩ := h.son hk hs (s := s) (by rw [ht2, Int.toNat_natCast]; omega)
      have hdg := h.nd (p := (g : Int)) (by omega) g3
      rw [Int.toNat_natCast] at hdg
      have cg : 0 ≤ (g : Int) ∧ (g : Int) < σ 16 0 := by omega
      have hland : f_Way_landing (k : Int) (s : Int) σ = some (if σ0 17 g = 1 then 0 else (g : Int)) := by
        unfold f_Way_landing
        rw [x_nextAt (by omega), if_pos (by omega), xbR_s, Int.toNat_natCast, Int.toNat_natCast, e1 21 _ (by omega) (by omega), g1, x_sortAt (by omega), if_pos cg, xbR_s, Int.toNat_natCast, e17]
        by_cases hz : σ0 17 g = 1
        · rw [if_pos hz, if_pos hz]
        · rw [if_neg hz, if_neg hz]
      -- the next NODE
      have go : ∀ k2 : Nat, (k2 : Int) < σ0 16 0 → ∃ (v : Int) (c2 : Nat) (σ' τ' : xSt), f_X_castOnce_10 n1 (most : Int) (w32 (w32 (x * 1103515245) + 12345)) (k2 : Int) (upS σ 0 18 ((c + 1 : Nat) : Int)) = some (v, σ') ∧ f_M_castBy_12 n2 (most : Int) (k2 : Int) (upS (upS τ 111 67 (w32 (w32 (x * 1103515245) + 12345))) 111 68 ((c + 1 : Nat) : Int)) = some (v, τ') ∧ σ' 0 18 = (c2 : Int) ∧ τ' 111 68 = (c2 : Int) ∧ (∀ a q, (a = 0 → q ≠ 18) → σ' a q = σ a q) ∧ ∀ a q, (a = 111 → q ≠ 67 ∧ q ≠ 68) → τ' a q = τ a q := by
        intro k2 hk2
        obtain ⟨v, c2, σ', τ', a1, a2, a3, a4, a5, a6⟩ := ih n1 n2 (c + 1) k2 (w32 (w32 (x * 1103515245) + 12345)) (upS σ 0 18 ((c + 1 : Nat) : Int)) (upS (upS τ 111 67 (w32 (w32 (x * 1103515245) + 12345))) 111 68 ((c + 1 : Nat) : Int)) (by omega) (by omega) (by omega) (fun a q q1 q2 => by rw [upS_rd, if_neg (by omega), e1 a q q1 q2]) (fun q => by rw [upS_rd, if_neg (by omega), e2']) (by rw [upS_rd, if_pos ⟨rfl, rfl⟩]) (by rw [upS_rd, if_pos ⟨rfl, rfl⟩]) (by rw [upS_rd, if_neg (by omega), upS_rd, if_pos ⟨rfl, rfl⟩]) hk2
        refine ⟨v, c2, σ', τ', a1, a2, a3, a4, fun a q ha => by rw [a5 a q ha, upS_rd, if_neg (fun z => ha z.1 z.2)], fun a q ha => by rw [a6 a q ha, upS_rd, if_neg (fun z => (ha z.1).2 z.2), upS_rd, if_neg (fun z => (ha z.1).1 z.2)]⟩
      have hX : ∀ r : Int × xSt, f_X_castOnce_10 n1 (most : Int) (w32 (w32 (x * 1103515245) + 12345)) (if σ0 17 g = 1 then 0 else (g : Int)) (upS σ 0 18 ((c + 1 : Nat) : Int)) = some r → f_X_castOnce_10 (n1 + 1) (most : Int) x (k : Int) σ = some r := by
        intro r hr
        rw [f_X_castOnce_10.eq_2, e3, if_pos (by omega), X1, xbR_s, if_pos hs, X2, xbR_s, xlet_s, ht2]
        unfold f_Table_sideOfDraw
        rw [hall, xbR_s, if_neg (by omega), if_neg (by omega), hr1, cx, xlet_s, s2, xbR_s, hland, xbR_s, w32_n1 b3, xlet_s, hr]
      have hM : ∀ r : Int × xSt, f_M_castBy_12 n2 (most : Int) (if σ0 17 g = 1 then 0 else (g : Int)) (upS (upS τ 111 67 (w32 (w32 (x * 1103515245) + 12345))) 111 68 ((c + 1 : Nat) : Int)) = some r → f_M_castBy_12 (n2 + 1) (most : Int) (k : Int) τ = some r := by
        intro r hr
        rw [f_M_castBy_12.eq_2, M1, xbR_s, if_pos hs, e4, if_neg (by omega), M2, xbR_s, ht2, mall, xbR_s, τd, xbW_s, s3]
        unfold mGo
        have e68 : (upS τ 111 67 (w32 (w32 (x * 1103515245) + 12345))) 111 68 = (c : Int) := by rw [upS_rd, if_neg (by omega), e4]
        have e3' : ∀ q, (upS (upS τ 111 67 (w32 (w32 (x * 1103515245) + 12345))) 111 68 ((c + 1 : Nat) : Int)) 113 q = σ0 113 q := fun q => by rw [upS_rd, if_neg (by omega), e2']
        rw [e68, w32_n1 b3, xlet_s, m_nextOf (by omega) (by omega) (by omega) (by omega), Int.toNat_natCast, Int.toNat_natCast, e3', ← hd.2.2.1 s (by omega), g1, xbR_s, m_sortOf (by omega) (by omega), Int.toNat_natCast, e3', ← hdg.1, xbR_s]
        by_cases hz : σ0 17 g = 1
        · rw [if_pos hz] at hr ⊢
          exact hr
        · rw [if_neg hz] at hr ⊢
          exact hr
      by_cases hz : σ0 17 g = 1
      · obtain ⟨v, c2, σ', τ', a1, a2, a3, a4, a5, a6⟩ := go 0 (by omega)
        rw [c0n] at a1 a2
        rw [if_pos hz] at hX hM
        exact ⟨v, c2, σ', τ', hX _ a1, hM _ a2, a3, a4, a5, a6⟩
      · obtain ⟨v, c2, σ', τ', a1, a2, a3, a4, a5, a6⟩ := go g g3
        rw [if_neg hz] at hX hM
        exact ⟨v, c2, σ', τ', hX _ a1, hM _ a2, a3, a4, a5, a6⟩
    · exact stop n1 n2 c k x σ τ e1 e2 e3 e4 hk (Or.inr ⟨by omega, hs⟩)
theorem cast_once {σ0 : xSt} (h : Inv0 σ0) (h0 : 0 < σ0 16 0) (hno : ∀ i : Nat, (i : Int) < σ0 16 0 → σ0 17 i = 2 → σ0 18 i ≠ σ0 7 3) {most : Nat} (hm : most ≤ 400) (x : Int) (σ τ : xSt) (e1 : ∀ a q, 7 ≤ a → a ≤ 21 → σ a q = σ0 a q) (e2 : ∀ q, τ 113 q = σ0 113 q) :
    ∃ (v : Int) (c2 : Nat) (σ' τ' : xSt), f_X_castOnce (most : Int) x σ = some (v, σ') ∧ f_M_castBy (most : Int) x τ = some (v, τ') ∧ σ' 0 18 = (c2 : Int) ∧ τ' 111 68 = (c2 : Int) ∧ (∀ a q, (a = 0 → q ≠ 18) → σ' a q = σ a q) ∧ ∀ a q, (a = 111 → q ≠ 67 ∧ q ≠ 68) → τ' a q = τ a q := by
  obtain ⟨v, c2, σ', τ', a1, a2, a3, a4, a5, a6⟩ := cast_run h hno hm most 1000000 1000000 0 0 x (upS σ 0 18 0) (upS (upS τ 111 67 x) 111 68 0) (by omega) (by omega) (by omega) (fun a q q1 q2 => by rw [upS_rd, if_neg (by omega), e1 a q q1 q2]) (fun q => by rw [upS_rd, if_neg (by omega), upS_rd, if_neg (by omega), e2]) (by rw [upS_rd, if_pos ⟨rfl, rfl⟩]; rfl) (by rw [upS_rd, if_pos ⟨rfl, rfl⟩]; rfl) (by rw [upS_rd, if_neg (by omega), upS_rd, if_pos ⟨rfl, rfl⟩]) (by omega)
  rw [c0n] at a1 a2
  refine ⟨v, c2, σ', τ', ?_, ?_, a3, a4, fun a q ha => by rw [a5 a q ha, upS_rd, if_neg (fun z => ha z.1 z.2)], fun a q ha => by rw [a6 a q ha, upS_rd, if_neg (fun z => (ha z.1).2 z.2), upS_rd, if_neg (fun z => (ha z.1).1 z.2)]⟩
  · unfold f_X_castOnce
    rw [xlet_s, a1]
  · unfold f_M_castBy
    rw [xlet_s, xlet_s, a2]
def S_tc : xZ := [(0, [3, 7, 17]), (96, [6]), (97, []), (99, [1]), (100, []), (102, [1]), (110, []), (111, [10, 23, 43, 45, 48, 66]), (124, []), (127, []), (136, [])]
theorem told_ct {σ σ' : xSt} (hp : C_told σ) (ha : Ag S_tc σ σ') (h1 : σ' 0 18 = σ' 111 69) : C_told σ' := by
  obtain ⟨t1, t2, t3, t4, t5, t6, t7, t8⟩ := hp
  unfold C_told
  rw [ha 0 3 rfl, ha 111 10 rfl, ha 0 7 rfl, ha 111 23 rfl, ha 96 6 rfl, ha 102 1 rfl, ha 111 48 rfl, ha 0 17 rfl, ha 111 66 rfl, ha 111 45 rfl, ha 111 43 rfl, ha 99 1 rfl]
  simp only [fun k => ha 124 k rfl, fun k => ha 97 k rfl, fun k => ha 110 k rfl, fun k => ha 136 k rfl, fun k => ha 100 k rfl, fun k => ha 127 k rfl]
  exact ⟨t1, t2, t3, t4, t5, t6, h1, t8⟩
def s_ct : xZ := [(0, [18]), (111, [0, 67, 68, 69])]
theorem inv_ct {G M : xSt} (h : Inv0 G) (F : Fr s_ct G M) (ht : M 0 18 = M 111 69) : Inv0 M := by
  obtain ⟨p1, p2, p3, p4, p5, p6, p7, p8⟩ := h
  exact ⟨p1.ag (F.ag rfl), p2.ag (F.ag rfl), p3.ag (F.ag rfl), p4.ag (F.ag rfl), p5.ag (F.ag rfl), told_ct p6 (F.ag rfl) ht, p7.ag (F.ag rfl), p8.ag (F.ag rfl)⟩
theorem s_ct_out {a k : Nat} (h : inS s_ct a k = false) : (a = 0 → k ≠ 18) ∧ (a = 111 → k ≠ 0 ∧ k ≠ 67 ∧ k ≠ 68 ∧ k ≠ 69) := by
  refine ⟨?_, ?_⟩
  · rintro rfl rfl
    cases h
  · rintro rfl
    refine ⟨?_, ?_, ?_, ?_⟩ <;> (rintro rfl; cases h)
/-- what a call of these stands on: the model's laid state G, and the class's -/
theorem lay0 {σ : xSt} (h : Inv0 σ) : f_M_lay (upS σ 111 0 0) = some (gLay (σ 111 22) (upS σ 111 0 0)) ∧ Inv0 (gLay (σ 111 22) (upS σ 111 0 0)) ∧ gLay (σ 111 22) (upS σ 111 0 0) 111 22 ≠ 0 ∧ gLay (σ 111 22) (upS σ 111 0 0) 0 7 = σ 0 7 ∧ ∀ a k, a ≤ 110 → gLay (σ 111 22) (upS σ 111 0 0) a k = σ a k := by
  obtain ⟨σL, hl, -, hIG, h22, -⟩ := lay_ok (inv_thr (v := 0) h)
  have e22 : (upS σ 111 0 0) 111 22 = σ 111 22 := rfl
  obtain rfl : gLay (σ 111 22) (upS σ 111 0 0) = σL := Option.some.inj ((gLay_f e22).symm.trans hl)
  exact ⟨hl, hIG, h22, by rw [gLay_k (by omega) (by omega), upS_rd, if_neg (by omega)], fun a k ha => by rw [gLay_k (by omega) (by omega), upS_rd, if_neg (by omega)]⟩
theorem sim_cast {n : Nat} : ∀ p1 p2 : Int, in32 p1 → in32 p2 → SimW (InvN (n + 1)) (InvN n) (f_X_cast p1 p2) (f_M_cast p1 p2) := by
  intro p1 p2 _ _
  refine simW0 (fun σ h => ?_)
  obtain ⟨hl, hIG, h22, g7, gc⟩ := lay0 h
  rcases cast_lock h hIG h22 (fun k => gc 7 k (by omega)) (fun k => gc 16 k (by omega)) (fun k => gc 17 k (by omega)) (fun k => gc 18 k (by omega)) (fun k => rfl) with ⟨a1, a2⟩ | ⟨a1, a2, a3, a4, a5⟩
  · refine ⟨-2, σ, gLay (σ 111 22) (upS σ 111 0 0), ?_, ?_, hIG, g7⟩
    · unfold f_X_cast
      by_cases h1 : p1 < 1
      · rw [if_pos h1]
      · by_cases h2 : 400 < p1
        · rw [if_neg h1, if_pos h2]
        · rw [if_neg h1, if_neg h2, a1, xbR_s, if_pos rfl]
    · unfold f_M_cast
      rcases a2 with z | ⟨z1, z2⟩
      · rw [xlet_s, hl, xbR_s, z, xbR_s, if_pos rfl]
      · rw [xlet_s, hl, xbR_s, z1, xbR_s, if_neg (by decide), z2, xbR_s, if_neg (by decide)]
  · by_cases hp : 1 ≤ p1 ∧ p1 ≤ 400
    · obtain ⟨m, rfl⟩ : ∃ m : Nat, p1 = (m : Int) := ⟨p1.toNat, by omega⟩
      obtain ⟨v, c2, σ', τ0, b1, -, b3, -, b5, -⟩ := cast_once h a4 a5 (most := m) (by omega) p2 σ σ (fun _ _ _ _ => rfl) (fun _ => rfl)
      have f22 : (upS σ' 111 0 0) 111 22 = σ 111 22 := by rw [upS_rd, if_neg (by omega), b5 111 22 (by omega)]
      have gs : ∀ a k, (a = 0 → k ≠ 18) → gLay (σ 111 22) (upS σ' 111 0 0) a k = gLay (σ 111 22) (upS σ 111 0 0) a k := by
        intro a k h1
        have h3 : (upS σ' 111 0 0) a k = (upS σ 111 0 0) a k := by rw [upS_rd, upS_rd, b5 a k h1]
        exact gLay_cg h3
      obtain ⟨v', c2', σ'', τ', d1, d2, d3, d4, d5, d6⟩ := cast_once hIG (by rw [gc 16 0 (by omega)]; exact a4) (fun i i1 i2 => by rw [gc 18 i (by omega), gc 7 3 (by omega)]; rw [gc 17 i (by omega)] at i2; rw [gc 16 0 (by omega)] at i1; exact a5 i i1 i2) (most := m) (by omega) p2 σ (gLay (σ 111 22) (upS σ' 111 0 0)) (fun a q q1 q2 => (gc a q (by omega)).symm) (fun q => gs 113 q (by omega))
      rw [b1] at d1
      obtain ⟨rfl, rfl⟩ := Prod.mk.inj (Option.some.inj d1)
      have F : Fr s_ct (gLay (σ 111 22) (upS σ 111 0 0)) (upS τ' 111 69 (τ' 111 68)) := fun a k hk => by
        obtain ⟨z1, z2⟩ := s_ct_out hk
        rw [upS_rd, if_neg (fun z => (z2 z.1).2.2.2 z.2), d6 a k (fun z => ⟨(z2 z).2.1, (z2 z).2.2.1⟩), gs a k z1]
      rcases cast_lock h hIG h22 (fun k => gc 7 k (by omega)) (fun k => gc 16 k (by omega)) (fun k => gc 17 k (by omega)) (fun k => gc 18 k (by omega)) (τ := gLay (σ 111 22) (upS σ' 111 0 0)) (fun k => gs 113 k (by omega)) with ⟨z1, -⟩ | ⟨-, z2, z3, -⟩
      · rw [a1] at z1
        cases z1
      refine ⟨v, σ', upS τ' 111 69 (τ' 111 68), ?_, ?_, inv_ct hIG F ?_, (F 0 7 rfl).trans g7⟩
      · unfold f_X_cast
        rw [if_neg (by omega), if_neg (by omega), a1, xbR_s, if_neg (by decide), b1, xbW_s]
      · unfold f_M_cast
        rw [xlet_s, gLay_f f22, xbR_s, z2, xbR_s, if_neg (by decide), z3, xbR_s, if_pos rfl, m_isIn, if_pos (by omega), xbR_s, if_neg (by decide), d2, xbW_s, xlet_s]
      · rw [upS_rd, if_neg (by omega), upS_rd, if_pos ⟨rfl, rfl⟩, d6 0 18 (by omega), gLay_k (by omega) (by omega), upS_rd, if_neg (by omega), d3, d4]
    · refine ⟨-2, σ, gLay (σ 111 22) (upS σ 111 0 0), ?_, ?_, hIG, g7⟩
      · unfold f_X_cast
        by_cases h1 : p1 < 1
        · rw [if_pos h1]
        · rw [if_neg h1, if_pos (by omega)]
      · unfold f_M_cast
        rw [xlet_s, hl, xbR_s, a2, xbR_s, if_neg (by decide), a3, xbR_s, if_pos rfl, m_isIn, if_neg hp, xbR_s, if_pos rfl]
theorem casts_run {σ0 : xSt} (h : Inv0 σ0) (h0 : 0 < σ0 16 0) (hno : ∀ i : Nat, (i : Int) < σ0 16 0 → σ0 17 i = 2 → σ0 18 i ≠ σ0 7 3) {m : Nat} (hm : m ≤ 200) (x e l4 : Int) : ∀ (j n1 n2 i c : Nat) (σ τ : xSt), i + j = m → j < n1 → j < n2 → c ≤ i → (∀ a q, 7 ≤ a → a ≤ 21 → σ a q = σ0 a q) → (∀ q, τ 113 q = σ0 113 q) →
    ∃ (c2 : Nat) (σ' τ' : xSt), f_X_casts_47 n1 (m : Int) x e l4 (c : Int) (i : Int) σ = some ((c2 : Int), σ') ∧ f_M_casts_50 n2 (m : Int) x e (c : Int) (i : Int) τ = some ((c2 : Int), τ') ∧ σ' 0 18 = l4 ∧ (∀ a q, (a = 0 → q ≠ 18) → σ' a q = σ a q) ∧ ∀ a q, (a = 111 → q ≠ 67 ∧ q ≠ 68) → τ' a q = τ a q := by
  intro j
  induction j with
  | zero =>
    intro n1 n2 i c σ τ h1 hn1 hn2 hc e1 e2
    obtain ⟨n1, rfl⟩ : ∃ n, n1 = n + 1 := ⟨n1 - 1, by omega⟩
    obtain ⟨n2, rfl⟩ : ∃ n, n2 = n + 1 := ⟨n2 - 1, by omega⟩
    refine ⟨c, upS σ 0 18 l4, τ, ?_, ?_, by rw [upS_rd, if_pos ⟨rfl, rfl⟩], fun a q ha => by rw [upS_rd, if_neg (fun z => ha z.1 z.2)], fun _ _ _ => rfl⟩
    · rw [f_X_casts_47.eq_2, if_neg (by omega), xlet_s]
    · rw [f_M_casts_50.eq_2, if_neg (by omega)]
  | succ j ih =>
    intro n1 n2 i c σ τ h1 hn1 hn2 hc e1 e2
    obtain ⟨n1, rfl⟩ : ∃ n, n1 = n + 1 := ⟨n1 - 1, by omega⟩
    obtain ⟨n2, rfl⟩ : ∃ n, n2 = n + 1 := ⟨n2 - 1, by omega⟩
    have b1 : i < 100000 := by omega
    have b2 : c < 100000 := by omega
    obtain ⟨v, c2, σ', τ', a1, a2, -, -, a5, a6⟩ := cast_once h h0 hno (most := 400) (by omega) (w32 (x + (i : Int))) σ τ e1 e2
    have s1 : ∀ a q, 7 ≤ a → a ≤ 21 → σ' a q = σ0 a q := fun a q q1 q2 => (a5 a q (by omega)).trans (e1 a q q1 q2)
    have s2 : ∀ q, τ' 113 q = σ0 113 q := fun q => (a6 113 q (by omega)).trans (e2 q)
    have a1 : f_X_castOnce 400 (w32 (x + (i : Int))) σ = some (v, σ') := a1
    have a2 : f_M_castBy 400 (w32 (x + (i : Int))) τ = some (v, τ') := a2
    by_cases hv : v = e
    · obtain ⟨c3, σ3, τ3, d1, d2, d3, d4, d5⟩ := ih n1 n2 (i + 1) (c + 1) σ' τ' (by omega) (by omega) (by omega) (by omega) s1 s2
      refine ⟨c3, σ3, τ3, ?_, ?_, d3, fun a q ha => (d4 a q ha).trans (a5 a q ha), fun a q ha => (d5 a q ha).trans (a6 a q ha)⟩
      · rw [f_X_casts_47.eq_2, if_pos (by omega), a1, xbW_s, if_pos hv, w32_n1 b2, xlet_s, w32_n1 b1, xlet_s, d1]
      · rw [f_M_casts_50.eq_2, if_pos (by omega), a2, xbW_s, if_pos hv, w32_n1 b2, xlet_s, w32_n1 b1, xlet_s, d2]
    · obtain ⟨c3, σ3, τ3, d1, d2, d3, d4, d5⟩ := ih n1 n2 (i + 1) c σ' τ' (by omega) (by omega) (by omega) (by omega) s1 s2
      refine ⟨c3, σ3, τ3, ?_, ?_, d3, fun a q ha => (d4 a q ha).trans (a5 a q ha), fun a q ha => (d5 a q ha).trans (a6 a q ha)⟩
      · rw [f_X_casts_47.eq_2, if_pos (by omega), a1, xbW_s, if_neg hv, w32_n1 b1, xlet_s, d1]
      · rw [f_M_casts_50.eq_2, if_pos (by omega), a2, xbW_s, if_neg hv, w32_n1 b1, xlet_s, d2]
theorem sim_casts {n : Nat} : ∀ p1 p2 p3 : Int, in32 p1 → in32 p2 → in32 p3 → SimW (InvN (n + 1)) (InvN n) (f_X_casts p1 p2 p3) (f_M_casts p1 p2 p3) := by
  intro p1 p2 p3 _ _ _
  refine simW0 (fun σ h => ?_)
  obtain ⟨hl, hIG, h22, g7, gc⟩ := lay0 h
  obtain ⟨he1, he2, he3⟩ := h.ends
  have hme : gLay (σ 111 22) (upS σ 111 0 0) 113 1 = σ 7 2 := by rw [← hIG.ends.1, gc 7 2 (by omega)]
  by_cases hp : 1 ≤ p1 ∧ p1 ≤ 200
  · by_cases hq : 0 ≤ p3 ∧ p3 < σ 7 2
    · rcases cast_lock h hIG h22 (fun k => gc 7 k (by omega)) (fun k => gc 16 k (by omega)) (fun k => gc 17 k (by omega)) (fun k => gc 18 k (by omega)) (fun k => rfl) with ⟨a1, a2⟩ | ⟨a1, a2, a3, a4, a5⟩
      · refine ⟨-1, σ, gLay (σ 111 22) (upS σ 111 0 0), ?_, ?_, hIG, g7⟩
        · unfold f_X_casts
          rw [if_neg (by omega), if_neg (by omega), x_hasEnd he3, if_pos hq, xbR_s, if_neg (by decide), a1, xbR_s, if_pos rfl]
        · unfold f_M_casts
          rcases a2 with z | ⟨z1, z2⟩
          · rw [xlet_s, hl, xbR_s, m_isIn, if_pos hp, xbR_s, if_neg (by decide), m_isEnd, hme, if_pos hq, xbR_s, if_neg (by decide), z, xbR_s, if_pos rfl]
          · rw [xlet_s, hl, xbR_s, m_isIn, if_pos hp, xbR_s, if_neg (by decide), m_isEnd, hme, if_pos hq, xbR_s, if_neg (by decide), z1, xbR_s, if_neg (by decide), z2, xbR_s, if_neg (by decide)]
      · obtain ⟨m, rfl⟩ : ∃ m : Nat, p1 = (m : Int) := ⟨p1.toNat, by omega⟩
        obtain ⟨c2, σ', τ0, b1, -, b3, b4, -⟩ := casts_run h a4 a5 (m := m) (by omega) p2 p3 (σ 0 18) m 1000000 1000000 0 0 σ σ (by omega) (by omega) (by omega) (by omega) (fun _ _ _ _ => rfl) (fun _ => rfl)
        have b5 : ∀ a q, σ' a q = σ a q := fun a q => by
          by_cases hz : a = 0 ∧ q = 18
          · rw [hz.1, hz.2, b3]
          · exact b4 a q (fun z z2 => hz ⟨z, z2⟩)
        obtain rfl : σ' = σ := funext (fun a => funext (fun q => b5 a q))
        obtain ⟨c2', σ'', τ', d1, d2, d3, d4, d5⟩ := casts_run hIG (by rw [gc 16 0 (by omega)]; exact a4) (fun i i1 i2 => by rw [gc 18 i (by omega), gc 7 3 (by omega)]; rw [gc 17 i (by omega)] at i2; rw [gc 16 0 (by omega)] at i1; exact a5 i i1 i2) (m := m) (by omega) p2 p3 (σ' 0 18) m 1000000 1000000 0 0 σ' (gLay (σ' 111 22) (upS σ' 111 0 0)) (by omega) (by omega) (by omega) (by omega) (fun a q q1 q2 => (gc a q (by omega)).symm) (fun q => rfl)
        rw [b1] at d1
        obtain ⟨hc, -⟩ := Prod.mk.inj (Option.some.inj d1)
        rw [c0n] at b1 d2
        have F : Fr s_ct (gLay (σ' 111 22) (upS σ' 111 0 0)) τ' := fun a k hk => by
          obtain ⟨z1, z2⟩ := s_ct_out hk
          exact d5 a k (fun z => ⟨(z2 z).2.1, (z2 z).2.2.1⟩)
        have ht := hIG.2.2.2.2.2.1.2.2.2.2.2.2.1
        refine ⟨(c2 : Int), σ', τ', ?_, ?_, inv_ct hIG F ?_, (F 0 7 rfl).trans g7⟩
        · unfold f_X_casts
          rw [if_neg (by omega), if_neg (by omega), x_hasEnd he3, if_pos hq, xbR_s, if_neg (by decide), a1, xbR_s, if_neg (by decide), xlet_s, b1]
        · unfold f_M_casts
          rw [xlet_s, hl, xbR_s, m_isIn, if_pos hp, xbR_s, if_neg (by decide), m_isEnd, hme, if_pos hq, xbR_s, if_neg (by decide), a2, xbR_s, if_neg (by decide), a3, xbR_s, if_pos rfl, d2, hc]
        · rw [d5 0 18 (by omega), d5 111 69 (by omega)]
          exact ht
    · refine ⟨-1, σ, gLay (σ 111 22) (upS σ 111 0 0), ?_, ?_, hIG, g7⟩
      · unfold f_X_casts
        rw [if_neg (by omega), if_neg (by omega), x_hasEnd he3, if_neg hq, xbR_s, if_pos rfl]
      · unfold f_M_casts
        rw [xlet_s, hl, xbR_s, m_isIn, if_pos hp, xbR_s, if_neg (by decide), m_isEnd, hme, if_neg hq, xbR_s, if_pos rfl]
  · refine ⟨-1, σ, gLay (σ 111 22) (upS σ 111 0 0), ?_, ?_, hIG, g7⟩
    · unfold f_X_casts
      by_cases h1 : p1 < 1
      · rw [if_pos h1]
      · rw [if_neg h1, if_pos (by omega)]
    · unfold f_M_casts
      rw [xlet_s, hl, xbR_s, m_isIn, if_neg hp, xbR_s, if_pos rfl]
