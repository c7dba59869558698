/-! SENTENCES read in lock-step: what stands between the tokens -/
def snW (a : Nat) : Prop := 42 ≤ a ∧ a ≤ 45
def snV (a q : Nat) : Prop := a = 138 ∨ a = 111 ∧ 71 ≤ q ∧ q ≤ 74
def SnR (σ0 τ0 : xSt) (d : Nat → Int) (n c i O S W : Nat) (σ τ : xSt) : Prop := LR d n 200 c i σ τ ∧ σ 2 9 = 0 ∧ τ 111 10 = 0 ∧ KpX snW σ0 σ ∧ KpM snV τ0 τ ∧ σ 42 0 = (O : Int) ∧ τ 111 72 = (O : Int) ∧ σ 42 1 = (S : Int) ∧ τ 111 71 = (S : Int) ∧ τ 111 73 = (W : Int) ∧ O ≤ 20 ∧ S ≤ 2 * O
def SnB (σ0 τ0 : xSt) (σ τ : xSt) : Prop := Flt σ τ ∧ KpX snW σ0 σ ∧ KpM snV τ0 τ
/-- steps lo to hi of the draft say one condition -/
def SnD (σ τ : xSt) (en : Int) : Nat → Nat → Nat → Prop
  | 0, _, _ => False
  | n + 1, lo, hi => ∃ i, hi = i + 1 ∧
    ((σ 43 i = 0 ∧ τ 138 (4 * i) = 1 ∧ SnD σ τ en n lo i ∧ τ 138 (4 * i + 1) = (i : Int) - 1) ∨
     ((σ 43 i = 1 ∧ τ 138 (4 * i) = 2 ∨ σ 43 i = 2 ∧ τ 138 (4 * i) = 3) ∧ ∃ m, SnD σ τ en n lo m ∧ SnD σ τ en n m i ∧ τ 138 (4 * i + 1) = (m : Int) - 1 ∧ τ 138 (4 * i + 2) = (i : Int) - 1) ∨
     (lo = i ∧ (σ 43 i = 3 ∧ τ 138 (4 * i) = 59 ∧ σ 45 i = τ 138 (4 * i + 1) ∧ 0 ≤ σ 45 i ∧ σ 45 i < en ∨
       σ 43 i = 4 ∧ τ 138 (4 * i) = 60 ∨ σ 43 i = 5 ∧ τ 138 (4 * i) = 61 ∨
       (σ 43 i = 6 ∧ τ 138 (4 * i) = 62 ∨ σ 43 i = 7 ∧ τ 138 (4 * i) = 63) ∧ σ 44 i = τ 138 (4 * i + 3) ∧ σ 45 i = τ 138 (4 * i + 2) ∧ (σ 44 i = 60 ∨ σ 44 i = 61 ∨ σ 44 i = 62) ∧ 0 ≤ σ 45 i ∧ σ 45 i ≤ 999)))
theorem SnD_lt {σ τ : xSt} {en : Int} : ∀ {n lo hi : Nat}, SnD σ τ en n lo hi → lo < hi := by
  intro n
  induction n with
  | zero => exact fun h => h.elim
  | succ n ih =>
    intro lo hi h
    obtain ⟨i, rfl, h⟩ := h
    rcases h with ⟨-, -, h, -⟩ | ⟨-, m, h1, h2, -⟩ | ⟨h, -⟩
    · have := ih h
      omega
    · have := ih h1
      have := ih h2
      omega
    · omega
theorem SnD_cg {σ τ σ' τ' : xSt} {en : Int} : ∀ {n lo hi : Nat}, (∀ k, lo ≤ k → k < hi → σ' 43 k = σ 43 k ∧ σ' 44 k = σ 44 k ∧ σ' 45 k = σ 45 k) → (∀ q, 4 * lo ≤ q → q < 4 * hi → τ' 138 q = τ 138 q) → SnD σ τ en n lo hi → SnD σ' τ' en n lo hi := by
  intro n
  induction n with
  | zero => exact fun _ _ h => h.elim
  | succ n ih =>
    intro lo hi h1 h2 h
    have hlt := SnD_lt h
    obtain ⟨i, rfl, h⟩ := h
    obtain ⟨k1, k2, k3⟩ := h1 i (by omega) (by omega)
    refine ⟨i, rfl, ?_⟩
    rw [k1, k2, k3, h2 (4 * i) (by omega) (by omega), h2 (4 * i + 1) (by omega) (by omega), h2 (4 * i + 2) (by omega) (by omega), h2 (4 * i + 3) (by omega) (by omega)]
    rcases h with ⟨a1, a2, a3, a4⟩ | ⟨a1, m, a2, a3, a4⟩ | h
    · exact Or.inl ⟨a1, a2, ih (fun k z1 z2 => h1 k z1 (by omega)) (fun q z1 z2 => h2 q z1 (by omega)) a3, a4⟩
    · have l2 := SnD_lt a2
      have l3 := SnD_lt a3
      exact Or.inr (Or.inl ⟨a1, m, ih (fun k z1 z2 => h1 k z1 (by omega)) (fun q z1 z2 => h2 q z1 (by omega)) a2, ih (fun k z1 z2 => h1 k (by omega) (by omega)) (fun q z1 z2 => h2 q (by omega) (by omega)) a3, a4⟩)
    · exact Or.inr (Or.inr h)
/-- at every height that can be wanted -/
def SnA (σ τ : xSt) (en : Int) (lo hi : Nat) : Prop := lo < hi ∧ ∀ n, hi - lo ≤ n → SnD σ τ en n lo hi
theorem SnA.cg {σ τ σ' τ' : xSt} {en : Int} {lo hi : Nat} (h : SnA σ τ en lo hi) (h1 : ∀ k, k < hi → σ' 43 k = σ 43 k ∧ σ' 44 k = σ 44 k ∧ σ' 45 k = σ 45 k) (h2 : ∀ q, q < 4 * hi → τ' 138 q = τ 138 q) : SnA σ' τ' en lo hi :=
  ⟨h.1, fun n hn => SnD_cg (fun k _ z => h1 k z) (fun q _ z => h2 q z) (h.2 n hn)⟩
theorem SnA.not {σ τ : xSt} {en : Int} {lo i : Nat} (h : SnA σ τ en lo i) (a1 : σ 43 i = 0) (a2 : τ 138 (4 * i) = 1) (a3 : τ 138 (4 * i + 1) = (i : Int) - 1) : SnA σ τ en lo (i + 1) := by
  have h1 := h.1
  refine ⟨by omega, fun n hn => ?_⟩
  obtain ⟨n, rfl⟩ : ∃ m, n = m + 1 := ⟨n - 1, by omega⟩
  exact ⟨i, rfl, Or.inl ⟨a1, a2, h.2 n (by omega), a3⟩⟩
theorem SnA.bin {σ τ : xSt} {en : Int} {lo m i : Nat} (h : SnA σ τ en lo m) (g : SnA σ τ en m i) (a1 : σ 43 i = 1 ∧ τ 138 (4 * i) = 2 ∨ σ 43 i = 2 ∧ τ 138 (4 * i) = 3) (a2 : τ 138 (4 * i + 1) = (m : Int) - 1) (a3 : τ 138 (4 * i + 2) = (i : Int) - 1) : SnA σ τ en lo (i + 1) := by
  have h1 := h.1
  have g1 := g.1
  refine ⟨by omega, fun n hn => ?_⟩
  obtain ⟨n, rfl⟩ : ∃ m, n = m + 1 := ⟨n - 1, by omega⟩
  exact ⟨i, rfl, Or.inr (Or.inl ⟨a1, m, h.2 n (by omega), g.2 n (by omega), a2, a3⟩)⟩
theorem SnA.leaf {σ τ : xSt} {en : Int} {i : Nat} (h : σ 43 i = 3 ∧ τ 138 (4 * i) = 59 ∧ σ 45 i = τ 138 (4 * i + 1) ∧ 0 ≤ σ 45 i ∧ σ 45 i < en ∨
       σ 43 i = 4 ∧ τ 138 (4 * i) = 60 ∨ σ 43 i = 5 ∧ τ 138 (4 * i) = 61 ∨
       (σ 43 i = 6 ∧ τ 138 (4 * i) = 62 ∨ σ 43 i = 7 ∧ τ 138 (4 * i) = 63) ∧ σ 44 i = τ 138 (4 * i + 3) ∧ σ 45 i = τ 138 (4 * i + 2) ∧ (σ 44 i = 60 ∨ σ 44 i = 61 ∨ σ 44 i = 62) ∧ 0 ≤ σ 45 i ∧ σ 45 i ≤ 999) : SnA σ τ en i (i + 1) := by
  refine ⟨by omega, fun n hn => ?_⟩
  obtain ⟨n, rfl⟩ : ∃ m, n = m + 1 := ⟨n - 1, by omega⟩
  exact ⟨i, rfl, Or.inr (Or.inr ⟨rfl, h⟩)⟩
def Kps (S : Nat) (σs τs σ τ : xSt) : Prop := (∀ k, k < S → σ 43 k = σs 43 k ∧ σ 44 k = σs 44 k ∧ σ 45 k = σs 45 k) ∧ ∀ q, q < 4 * S → τ 138 q = τs 138 q
theorem Kps.rf {S : Nat} {σ τ : xSt} : Kps S σ τ σ τ := ⟨fun _ _ => ⟨rfl, rfl, rfl⟩, fun _ _ => rfl⟩
theorem Kps.tr {S S1 : Nat} {σs τs σ τ σ' τ' : xSt} (h : Kps S σs τs σ τ) (g : Kps S1 σ τ σ' τ') (hs : S ≤ S1) : Kps S σs τs σ' τ' :=
  ⟨fun k hk => by
    obtain ⟨a1, a2, a3⟩ := h.1 k hk
    obtain ⟨b1, b2, b3⟩ := g.1 k (by omega)
    exact ⟨b1.trans a1, b2.trans a2, b3.trans a3⟩, fun q hq => (g.2 q (by omega)).trans (h.2 q hq)⟩
theorem x_sadd {σ : xSt} {S : Nat} (h : σ 42 1 = (S : Int)) (hS : S < 40) (p1 p2 p3 : Int) : f_Sentence_add p1 p2 p3 σ = some (1, upS (upS (upS (upS σ 43 S p1) 44 S p2) 45 S p3) 42 1 ((S + 1 : Nat) : Int)) := by
  have b : 0 ≤ (S : Int) ∧ (S : Int) < 40 := by omega
  have b1 : S < 100000 := by omega
  unfold f_Sentence_add
  rw [h, x_isWithin, if_pos b, xbR_s, if_neg (by decide), if_pos b, Int.toNat_natCast, xlet_s, upS_ne (by decide), h, if_pos b, Int.toNat_natCast, xlet_s, upS_ne (by decide), upS_ne (by decide), h, if_pos b, Int.toNat_natCast, xlet_s, upS_ne (by decide), upS_ne (by decide), upS_ne (by decide), h, w32_n1 b1, xlet_s]
theorem m_says {τ : xSt} {S : Nat} (h : τ 111 71 = (S : Int)) (hS : S < 60) (p1 p2 p3 p4 : Int) : f_M_saysOne p1 p2 p3 p4 τ = some ((S : Int), upS (upS (upS (upS (upS τ 138 (4 * S) p1) 138 (4 * S + 1) p2) 138 (4 * S + 2) p3) 138 (4 * S + 3) p4) 111 71 ((S + 1 : Nat) : Int)) := by
  have b0 : 0 ≤ ((4 * S : Nat) : Int) ∧ ((4 * S : Nat) : Int) < 240 := by omega
  have b1 : 0 ≤ ((4 * S + 1 : Nat) : Int) ∧ ((4 * S + 1 : Nat) : Int) < 240 := by omega
  have b2 : 0 ≤ ((4 * S + 2 : Nat) : Int) ∧ ((4 * S + 2 : Nat) : Int) < 240 := by omega
  have b3 : 0 ≤ ((4 * S + 3 : Nat) : Int) ∧ ((4 * S + 3 : Nat) : Int) < 240 := by omega
  have bS : S < 100000 := by omega
  have b4 : 4 * S < 100000 := by omega
  have e0 : w32 (4 * (S : Int)) = ((4 * S : Nat) : Int) := (w32_o (by omega) (by omega)).trans (by omega)
  have e1 : w32 (((4 * S : Nat) : Int) + 1) = ((4 * S + 1 : Nat) : Int) := w32_n1 b4
  have e2 : w32 (((4 * S : Nat) : Int) + 2) = ((4 * S + 2 : Nat) : Int) := w32_n2 b4
  have e3 : w32 (((4 * S : Nat) : Int) + 3) = ((4 * S + 3 : Nat) : Int) := (w32_o (by omega) (by omega)).trans (by omega)
  have e4 : w32 (((S + 1 : Nat) : Int) - 1) = (S : Int) := (w32_o (by omega) (by omega)).trans (by omega)
  unfold f_M_saysOne
  rw [h, e0, xlet_s, if_pos b0, Int.toNat_natCast, xlet_s, e1, if_pos b1, Int.toNat_natCast, xlet_s, e2, if_pos b2, Int.toNat_natCast, xlet_s, e3, if_pos b3, Int.toNat_natCast, xlet_s, upS_ne (by decide), upS_ne (by decide), upS_ne (by decide), upS_ne (by decide), h, w32_n1 bS, xlet_s, upS_eq, e4]
/-- one step more, on both sides -/
theorem add_lock {σ0 τ0 : xSt} {d : Nat → Int} {n c i O S W : Nat} {σ τ : xSt} (hR : SnR σ0 τ0 d n c i O S W σ τ) (hS : S + 1 ≤ 2 * O) (p1 p2 p3 r1 r2 r3 r4 : Int) :
    ∃ σ' τ', f_Sentence_add p1 p2 p3 σ = some (1, σ') ∧ f_M_saysOne r1 r2 r3 r4 τ = some ((S : Int), τ') ∧ SnR σ0 τ0 d n c i O (S + 1) W σ' τ' ∧ Kps S σ τ σ' τ' ∧ (σ' 43 S = p1 ∧ σ' 44 S = p2 ∧ σ' 45 S = p3) ∧ τ' 138 (4 * S) = r1 ∧ τ' 138 (4 * S + 1) = r2 ∧ τ' 138 (4 * S + 2) = r3 ∧ τ' 138 (4 * S + 3) = r4 ∧ (∀ a q, 7 ≤ a → a ≤ 21 → σ' a q = σ a q) ∧ ∀ a q, (a = 111 → q ≠ 71) → a ≠ 138 → τ' a q = τ a q := by
  obtain ⟨hL, h9, h10, kX, kM, o1, o2, s1, s2, w1, hO, -⟩ := hR
  have fX : ∀ a q, (a < 42 ∨ 45 < a ∨ a = 42 ∧ q ≠ 1) → (upS (upS (upS (upS σ 43 S p1) 44 S p2) 45 S p3) 42 1 ((S + 1 : Nat) : Int)) a q = σ a q := fun a q z => by
    rw [upS_rd, if_neg (by omega), upS_ne (by omega), upS_ne (by omega), upS_ne (by omega)]
  have fM : ∀ a q, (a = 111 → q ≠ 71) → a ≠ 138 → (upS (upS (upS (upS (upS τ 138 (4 * S) r1) 138 (4 * S + 1) r2) 138 (4 * S + 2) r3) 138 (4 * S + 3) r4) 111 71 ((S + 1 : Nat) : Int)) a q = τ a q := fun a q z1 z2 => by
    rw [upS_rd, if_neg (fun y => z1 y.1 y.2), upS_ne z2, upS_ne z2, upS_ne z2, upS_ne z2]
  refine ⟨_, _, x_sadd s1 (by omega) p1 p2 p3, m_says s2 (by omega) r1 r2 r3 r4, ⟨?_, ?_, ?_, ?_, ?_, ?_, ?_, upS_eq, upS_eq, ?_, hO, hS⟩, ⟨fun k hk => ⟨?_, ?_, ?_⟩, fun q hq => ?_⟩, ⟨?_, ?_, ?_⟩, ?_, ?_, ?_, ?_, fun a q z1 z2 => fX a q (by omega), fM⟩
  · exact hL.cg (fun a k z1 z2 => fX a k (by omega)) (fun q z1 z2 => fM 111 q (fun _ => by omega) (by decide)) (fun q => fM 112 q (by omega) (by decide))
  · rw [fX 2 9 (by decide)]; exact h9
  · rw [fM 111 10 (fun _ => by decide) (by decide)]; exact h10
  · exact kX.st (fun a q z1 z2 => fX a q (by unfold snW at z2; omega))
  · exact kM.st (fun a q z1 z2 => fM a q (fun y1 y2 => z2 (Or.inr ⟨y1, by omega, by omega⟩)) (fun y => z2 (Or.inl y)))
  · rw [fX 42 0 (Or.inr (Or.inr ⟨rfl, by decide⟩))]; exact o1
  · rw [fM 111 72 (fun _ => by decide) (by decide)]; exact o2
  · rw [fM 111 73 (fun _ => by decide) (by decide)]; exact w1
  · rw [upS_ne (by decide), upS_ne (by decide), upS_ne (by decide), upS_nk (by omega)]
  · rw [upS_ne (by decide), upS_ne (by decide), upS_nk (by omega), upS_ne (by decide)]
  · rw [upS_ne (by decide), upS_nk (by omega), upS_ne (by decide), upS_ne (by decide)]
  · rw [upS_ne (by decide), upS_nk (by omega), upS_nk (by omega), upS_nk (by omega), upS_nk (by omega)]
  · rw [upS_ne (by decide), upS_ne (by decide), upS_ne (by decide), upS_eq]
  · rw [upS_ne (by decide), upS_ne (by decide), upS_eq]
  · rw [upS_ne (by decide), upS_eq]
  · rw [upS_ne (by decide), upS_nk (by omega), upS_nk (by omega), upS_nk (by omega), upS_eq]
  · rw [upS_ne (by decide), upS_nk (by omega), upS_nk (by omega), upS_eq]
  · rw [upS_ne (by decide), upS_nk (by omega), upS_eq]
  · rw [upS_ne (by decide), upS_eq]
theorem SnR.top {σ0 τ0 : xSt} {d : Nat → Int} {n c i O S W : Nat} {σ τ : xSt} (h : SnR σ0 τ0 d n c i O S W σ τ) (v : Int) : SnR σ0 τ0 d n c i O S W σ (upS τ 111 74 v) := by
  obtain ⟨hL, h9, h10, kX, kM, o1, o2, s1, s2, w1, hO⟩ := h
  refine ⟨hL.cg (fun _ _ _ _ => rfl) (fun q z1 z2 => upS_nk (by omega)) (fun q => upS_ne (by decide)), h9, ?_, kX, kM.st (fun a q z1 z2 => by rw [upS_rd, if_neg (fun y => z2 (Or.inr ⟨y.1, by omega, by omega⟩))]), o1, ?_, s1, ?_, ?_, hO⟩
  · rw [upS_nk (by decide)]; exact h10
  · rw [upS_nk (by decide)]; exact o2
  · rw [upS_nk (by decide)]; exact s2
  · rw [upS_nk (by decide)]; exact w1
theorem SnR.go {σ0 τ0 : xSt} {d : Nat → Int} {n c i O S W : Nat} {σ τ : xSt} (h : SnR σ0 τ0 d n c i O S W σ τ) (h0 : σ 2 6 ≠ 0) (h1 : σ 2 6 ≠ 1) : ∃ σ' τ', f_Tokens_step σ = some σ' ∧ f_M_go τ = some τ' ∧ SnR σ0 τ0 d n c (i + 1) O S W σ' τ' ∧ frS σ σ' ∧ frH τ τ' := by
  obtain ⟨hL, h9, h10, kX, kM, o1, o2, s1, s2, w1, hO⟩ := h
  obtain ⟨σ', τ', a1, a2, a3, a4, a5⟩ := hL.go1 h0 h1
  refine ⟨σ', τ', a1, a2, ⟨a3, ?_, ?_, kX.step a4, kM.go a5, ?_, ?_, ?_, ?_, ?_, hO⟩, a4, a5⟩
  · rw [a4 2 9 (fun _ => by decide)]; exact h9
  · rw [a5 111 10 (fun _ => by decide)]; exact h10
  · rw [a4 42 0 (fun z => absurd z (by decide))]; exact o1
  · rw [a5 111 72 (fun _ => by decide)]; exact o2
  · rw [a4 42 1 (fun z => absurd z (by decide))]; exact s1
  · rw [a5 111 71 (fun _ => by decide)]; exact s2
  · rw [a5 111 73 (fun _ => by decide)]; exact w1
/-- one condition read -/
def SnE (σ0 τ0 : xSt) (d : Nat → Int) (n c : Nat) (en : Int) (O S W : Nat) (σs τs σ τ : xSt) : Prop := ∃ i' O' S' : Nat, SnR σ0 τ0 d n c i' O' S' W σ τ ∧ τ 111 74 = (S' : Int) - 1 ∧ O < O' ∧ S' + 1 + 2 * O ≤ S + 2 * O' ∧ Kps S σs τs σ τ ∧ SnA σ τ en S S'
def SnL (σ0 τ0 : xSt) (d : Nat → Int) (n c : Nat) (en : Int) (W : Nat) (qx qy : xSt → Option (Int × xSt)) : Prop := ∀ (i O S : Nat) (σ τ : xSt), SnR σ0 τ0 d n c i O S W σ τ →
  (∃ σ' τ', qx σ = some (1, σ') ∧ qy τ = some (1, τ') ∧ SnE σ0 τ0 d n c en O S W σ τ σ' τ') ∨ (∃ σ' τ', qx σ = some (0, σ') ∧ qy τ = some (0, τ') ∧ SnB σ0 τ0 σ' τ')
/-- more of them, with 'and' or 'or' between -/
theorem bin_lock {σ0 τ0 : xSt} {d : Nat → Int} {n c : Nat} {en : Int} {W aw kw : Nat} {kind mk : Int} {qx qy : xSt → Option (Int × xSt)} {X Y : Nat → Int → xSt → Option (Int × xSt)}
    (hX : ∀ fu (l : Int) σ, X (fu + 1) l σ = if l < 20 then (xbR (f_Tokens_is aw σ) fun r3 => if r3 = 0 then (some (1, σ)) else (xbR (f_Tokens_step σ) fun σ4 => xbW (qx σ4) fun r5 σ6 => if r5 = 0 then (some (0, σ6)) else (xbW (f_Sentence_add kind 0 0 σ6) fun r7 σ8 => if r7 = 0 then (some (0, σ8)) else (xlet (w32 (l + 1)) fun x9 => X fu x9 σ8)))) else (some (1, σ)))
    (hY : ∀ fu (l : Int) τ, Y (fu + 1) l τ = xbR (f_M_isWord (kw : Int) τ) fun r4 => if r4 = 0 then (xlet (upS τ 111 74 l) fun σ5 => some (1, σ5)) else (xbR (f_M_go τ) fun σ6 => xbW (qy σ6) fun r7 σ8 => if r7 = 0 then (some (0, σ8)) else (xbW (f_M_saysOne mk l (σ8 111 74) 0 σ8) fun r9 σ10 => Y fu r9 σ10)))
    (hk : (aw, kw) ∈ wdA) (hkm : kind = 1 ∧ mk = 2 ∨ kind = 2 ∧ mk = 3) (hop : SnL σ0 τ0 d n c en W qx qy) {O0 S0 : Nat} {σs τs : xSt} : ∀ (j fu fu2 l i O S : Nat) (σ τ : xSt), 21 ≤ O + j → j < fu → j < fu2 → l + O0 + 1 ≤ O → SnR σ0 τ0 d n c i O S W σ τ → S + 1 + 2 * O0 ≤ S0 + 2 * O → S0 ≤ 2 * O0 → Kps S0 σs τs σ τ → SnA σ τ en S0 S →
    (∃ σ' τ', X fu (l : Int) σ = some (1, σ') ∧ Y fu2 ((S : Int) - 1) τ = some (1, τ') ∧ SnE σ0 τ0 d n c en O0 S0 W σs τs σ' τ') ∨ (∃ σ' τ', X fu (l : Int) σ = some (0, σ') ∧ Y fu2 ((S : Int) - 1) τ = some (0, τ') ∧ SnB σ0 τ0 σ' τ') := by
  intro j
  induction j with
  | zero =>
    intro fu fu2 l i O S σ τ g1 g2 g3 g4 hR g5 g6 hK hA
    have := hR.2.2.2.2.2.2.2.2.2.2.1
    omega
  | succ j ih =>
    intro fu fu2 l i O S σ τ g1 g2 g3 g4 hR g5 g6 hK hA
    obtain ⟨fu, rfl⟩ : ∃ n2, fu = n2 + 1 := ⟨fu - 1, by omega⟩
    obtain ⟨fu2, rfl⟩ : ∃ n2, fu2 = n2 + 1 := ⟨fu2 - 1, by omega⟩
    have hO20 := hR.2.2.2.2.2.2.2.2.2.2.1
    have l20 : (l : Int) < 20 := by omega
    have l100 : l < 100000 := by omega
    obtain ⟨v, v0, v1, v2⟩ := hR.1.hand.word hk
    have xe := hX fu (l : Int) σ
    have ye := hY fu2 ((S : Int) - 1) τ
    rw [if_pos l20, v1, xbR_s] at xe
    rw [v2, xbR_s] at ye
    by_cases hv : v = 0
    · rw [if_pos hv] at xe
      rw [if_pos hv, xlet_s] at ye
      have fK : ∀ q, (upS τ 111 74 ((S : Int) - 1)) 138 q = τ 138 q := fun q => upS_ne (by decide)
      exact Or.inl ⟨σ, _, xe, ye, i, O, S, hR.top _, upS_eq, by omega, g5, ⟨hK.1, fun q hq => (fK q).trans (hK.2 q hq)⟩, hA.cg (fun _ _ => ⟨rfl, rfl, rfl⟩) (fun q _ => fK q)⟩
    · have hv1 : v = 1 := by omega
      have s3 : σ 2 6 = 3 := wrd1 hk (by rw [v1, hv1])
      obtain ⟨σ1, τ1, a1, a2, a3, a4, a5⟩ := hR.go (by omega) (by omega)
      rw [if_neg hv, a1, xbR_s] at xe
      rw [if_neg hv, a2, xbR_s] at ye
      have k1 : Kps S σ τ σ1 τ1 := ⟨fun k _ => ⟨a4 43 k (fun z => absurd z (by decide)), a4 44 k (fun z => absurd z (by decide)), a4 45 k (fun z => absurd z (by decide))⟩, fun q _ => a5 138 q (fun z => absurd z (by decide))⟩
      rcases hop (i + 1) O S σ1 τ1 a3 with ⟨σ2, τ2, b1, b2, i2, O2, S2, c1, c2, c3, c4, c5, c6⟩ | ⟨σ2, τ2, b1, b2, b3⟩
      · rw [b1, xbW_s, if_neg (by decide)] at xe
        rw [b2, xbW_s, if_neg (by decide)] at ye
        have hS2 : S < S2 := c6.1
        have hS0 : S0 < S := hA.1
        obtain ⟨σ3, τ3, w1, w2, w3, w4, ⟨w5, w6, w7⟩, w8, w9, w10, w11, w12, w13⟩ := add_lock c1 (by omega) kind 0 0 mk ((S : Int) - 1) ((S2 : Int) - 1) 0
        rw [w1, xbW_s, if_neg (by decide), xlet_s, w32_n1 l100] at xe
        rw [c2, w2, xbW_s, show (S2 : Int) = ((S2 + 1 : Nat) : Int) - 1 by omega] at ye
        rw [xe, ye]
        have kA : Kps S σ τ σ3 τ3 := (k1.tr c5 (Nat.le_refl S)).tr w4 (by omega)
        have kk := (k1.tr c5 (Nat.le_refl S))
        have A1 : SnA σ3 τ3 en S0 S := hA.cg kA.1 kA.2
        have A2 : SnA σ3 τ3 en S S2 := c6.cg w4.1 w4.2
        have hb : σ3 43 S2 = 1 ∧ τ3 138 (4 * S2) = 2 ∨ σ3 43 S2 = 2 ∧ τ3 138 (4 * S2) = 3 := by
          rw [w5, w8]
          exact hkm
        exact ih fu fu2 (l + 1) i2 O2 (S2 + 1) σ3 τ3 (by omega) (by omega) (by omega) (by omega) w3 (by omega) g6 (hK.tr kA (by omega)) (A1.bin A2 hb w9 w10)
      · rw [b1, xbW_s, if_pos rfl] at xe
        rw [b2, xbW_s, if_pos rfl] at ye
        exact Or.inr ⟨σ2, τ2, xe, ye, b3⟩
