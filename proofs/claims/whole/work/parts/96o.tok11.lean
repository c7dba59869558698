/-! TOKENS: begin, step -/
def Toks (d : Nat → Int) (n lim : Nat) (σ : xSt) (c : Nat) : Prop := c ≤ n ∧ σ 2 4 = ((c + 1 : Nat) : Int) ∧ (∀ i : Nat, i < c → tk d n lim (pos d n lim i) ≠ 0 ∧ tk d n lim (pos d n lim i) ≠ 1 ∧ TokI d n lim σ i) ∧ (tk d n lim (pos d n lim c) = 0 ∨ tk d n lim (pos d n lim c) = 1) ∧ TokI d n lim σ c
def Cur (σ : xSt) (i : Nat) : Prop := σ 2 5 = (i : Int) ∧ σ 2 6 = σ 3 i ∧ σ 2 7 = σ 4 i ∧ σ 2 8 = σ 5 i
def frS (σ σ' : xSt) : Prop := ∀ a k, (a = 2 → k ≠ 5 ∧ k ≠ 6 ∧ k ≠ 7 ∧ k ≠ 8) → σ' a k = σ a k
theorem x_stp {σ : xSt} {i c : Nat} (h4 : σ 2 4 = ((c + 1 : Nat) : Int)) (h5 : σ 2 5 = (i : Int) - 1) (hi : i ≤ c) (hc : c ≤ 640) : ∃ σ', f_Tokens_step σ = some σ' ∧ Cur σ' i ∧ frS σ σ' := by
  have e1 : w32 ((i : Int) - 1 + 1) = (i : Int) := (w32_o (by omega) (by omega)).trans (by omega)
  have c1 : 0 ≤ (i : Int) ∧ (i : Int) < ((c + 1 : Nat) : Int) := by omega
  have c2 : (i : Int) < 641 := by omega
  have c3 : 0 ≤ (i : Int) ∧ (i : Int) < 641 := by omega
  refine ⟨upS (upS (upS (upS σ 2 5 (i : Int)) 2 6 (σ 3 i)) 2 7 (σ 4 i)) 2 8 (σ 5 i), ?_, ⟨?_, ?_, ?_, ?_⟩, fun a k z => ?_⟩
  · unfold f_Tokens_step
    rw [h5, e1, h4, x_isWithin, if_pos c1, xbR_s, if_neg (by decide), if_pos c2, xlet_s, upS_eq, if_pos c3, Int.toNat_natCast, xlet_s, upS_nk (by decide), upS_eq, if_pos c3, Int.toNat_natCast, xlet_s, upS_nk (by decide), upS_nk (by decide), upS_eq, if_pos c3, Int.toNat_natCast, xlet_s, upS_ne (by decide), upS_ne (by decide), upS_ne (by decide), upS_ne (by decide), upS_ne (by decide), upS_ne (by decide)]
  · rw [upS_nk (by decide), upS_nk (by decide), upS_nk (by decide), upS_eq]
  · rw [upS_nk (by decide), upS_nk (by decide), upS_eq, upS_ne (by decide), upS_ne (by decide), upS_ne (by decide), upS_ne (by decide)]
  · rw [upS_nk (by decide), upS_eq, upS_ne (by decide), upS_ne (by decide), upS_ne (by decide), upS_ne (by decide)]
  · rw [upS_eq, upS_ne (by decide), upS_ne (by decide), upS_ne (by decide), upS_ne (by decide)]
  · rw [upS_rd, if_neg (fun y => (z y.1).2.2.2 y.2), upS_rd, if_neg (fun y => (z y.1).2.2.1 y.2), upS_rd, if_neg (fun y => (z y.1).2.1 y.2), upS_rd, if_neg (fun y => (z y.1).1 y.2)]
/-- the class passes a token; the last it does not pass -/
theorem x_step {σ : xSt} {i c : Nat} (h4 : σ 2 4 = ((c + 1 : Nat) : Int)) (hC : Cur σ i) (hi : i ≤ c) (hc : c ≤ 640) : ∃ σ', f_Tokens_step σ = some σ' ∧ Cur σ' (if i < c then i + 1 else i) ∧ frS σ σ' := by
  by_cases h : i < c
  · rw [if_pos h]
    exact x_stp (i := i + 1) h4 (by rw [hC.1]; omega) (by omega) hc
  · rw [if_neg h]
    have e1 : w32 ((i : Int) + 1) = ((i + 1 : Nat) : Int) := w32_n1 (by omega)
    refine ⟨σ, ?_, hC, fun _ _ _ => rfl⟩
    unfold f_Tokens_step
    rw [hC.1, e1, h4, x_isWithin, if_neg (by omega), xbR_s, if_pos rfl]
theorem x_begin {d : Nat → Int} {n lim : Nat} {σ : xSt} (hT : TapX d n σ) (hl : lim ≤ 640) : ∃ (c : Nat) (σ' : xSt), f_Tokens_begin (n : Int) (lim : Int) σ = some σ' ∧ Toks d n lim σ' c ∧ Cur σ' 0 ∧ σ' 2 9 = 0 ∧ σ' 2 10 = 0 ∧ ∀ a k, a ≠ 2 → a ≠ 3 → a ≠ 4 → a ≠ 5 → σ' a k = σ a k := by
  have h640 := hT.1
  obtain ⟨c, x, σ1, r1, r2, r3, r4, r5, r6, r7, r8⟩ := x_beg20 (lim := lim) h640 n 1000000 0 0 0 (upS (upS (upS σ 2 4 0) 2 9 0) 2 10 0) (by omega) (by omega) (by omega) (Nat.le_refl 0) (Nat.le_refl 0) ⟨h640, fun k hk => by rw [upS_ne (by decide), upS_ne (by decide), upS_ne (by decide)]; exact hT.2 k hk⟩ (by rw [upS_nk (by decide), upS_nk (by decide), upS_eq]; rfl) (fun i hi => absurd hi (Nat.not_lt_zero _)) rfl
  have c640 : c ≤ 640 := by omega
  have xb := skQ_b (d := d) (n := n) (n - x) (by omega)
  have xb1 : x ≤ tq d n x ∧ tq d n x ≤ n := by
    unfold tq
    omega
  -- the last token
  have key : ∀ (s : Int) (k : Nat), tk d n lim (pos d n lim c) = k → (k = 0 ∧ s = 0 ∨ k = 1 ∧ s = 1) → tpl d n lim (pos d n lim c) = min n lim → f_Tokens_begin_51 (n : Int) (lim : Int) σ1 = f_Tokens_begin_62 (n : Int) (lim : Int) s σ1 → ∃ (c : Nat) (σ' : xSt), f_Tokens_begin (n : Int) (lim : Int) σ = some σ' ∧ Toks d n lim σ' c ∧ Cur σ' 0 ∧ σ' 2 9 = 0 ∧ σ' 2 10 = 0 ∧ ∀ a k, a ≠ 2 → a ≠ 3 → a ≠ 4 → a ≠ 5 → σ' a k = σ a k := fun s k hk hs hpl h51 => by
    have em : xmin (n : Int) (lim : Int) = ((min n lim : Nat) : Int) := by
      unfold xmin
      split <;> omega
    obtain ⟨σ2, a1, a2, a3, a4⟩ := x_tadd r5 c640 s 0 ((min n lim : Nat) : Int)
    obtain ⟨σ3, b1, b2, b3⟩ := x_stp (σ := upS σ2 2 5 (-1)) (i := 0) (c := c) (by rw [upS_nk (by decide)]; exact a2) (by rw [upS_eq]; rfl) (Nat.zero_le c) c640
    have f3 : ∀ a k, (a = 2 → k ≠ 4 ∧ k ≠ 5 ∧ k ≠ 6 ∧ k ≠ 7 ∧ k ≠ 8) → (a = 3 ∨ a = 4 ∨ a = 5 → k ≠ c) → σ3 a k = σ1 a k := fun a k z1 z2 => by
      rw [b3 a k (fun y => ⟨(z1 y).2.1, (z1 y).2.2.1, (z1 y).2.2.2.1, (z1 y).2.2.2.2⟩), upS_rd, if_neg (fun y => (z1 y.1).2.1 y.2), a4 a k (fun y => (z1 y).1) z2]
    have g3 : ∀ a k, a ≠ 2 → σ3 a k = σ2 a k := fun a k z => by
      rw [b3 a k (fun y => absurd y z), upS_ne z]
    refine ⟨c, σ3, ?_, ⟨by omega, ?_, fun i hi => ?_, ?_, ?_⟩, b2, ?_, ?_, fun a k z1 z2 z3 z4 => ?_⟩
    · unfold f_Tokens_begin
      rw [c0n] at r1
      rw [xlet_s, xlet_s, xlet_s, r1, h51]
      unfold f_Tokens_begin_62
      rw [em, a1, xbR_s, xlet_s, b1, xbR_s]
    · rw [b3 2 4 (fun _ => by decide), upS_nk (by decide)]
      exact a2
    · obtain ⟨h1, h2, s', v', h3, y1, y2, y3⟩ := r6 i hi
      refine ⟨h1, h2, s', v', h3, ?_, ?_, ?_⟩
      · rw [f3 3 i (fun z => absurd z (by decide)) (fun _ => by omega)]
        exact y1
      · rw [f3 4 i (fun z => absurd z (by decide)) (fun _ => by omega)]
        exact y2
      · rw [f3 5 i (fun z => absurd z (by decide)) (fun _ => by omega)]
        exact y3
    · rw [hk]
      omega
    · obtain ⟨y1, y2, y3⟩ := a3
      refine ⟨s, 0, ?_, ?_, ?_, ?_⟩
      · rw [hk]
        exact ⟨fun z => by omega, fun z => by omega, fun z => by omega, fun z => by omega, fun z => by omega, fun z => by omega⟩
      · rw [g3 3 c (by decide)]
        exact y1
      · rw [g3 4 c (by decide)]
        exact y2
      · rw [g3 5 c (by decide), hpl]
        exact y3
    · rw [f3 2 9 (fun _ => by decide) (fun z => by omega), r8 2 9 (fun _ => by decide) (by decide) (by decide) (by decide), upS_nk (by decide), upS_eq]
    · rw [f3 2 10 (fun _ => by decide) (fun z => by omega), r8 2 10 (fun _ => by decide) (by decide) (by decide) (by decide), upS_eq]
    · rw [f3 a k (fun y => absurd y z1) (fun y => by omega), r8 a k (fun y => absurd y z1) z2 z3 z4, upS_ne z1, upS_ne z1, upS_ne z1]
  by_cases hln : lim < n
  · have hL : lim < n ∧ lim ≤ tq d n (pos d n lim c) := by
      rw [r7]
      omega
    refine key 1 1 (if_pos hL) (Or.inr ⟨rfl, rfl⟩) ((if_pos hL).trans (by omega)) ?_
    unfold f_Tokens_begin_51
    rw [if_pos (by omega)]
  · have hL : ¬ (lim < n ∧ lim ≤ tq d n (pos d n lim c)) := fun z => hln z.1
    have hq : n ≤ tq d n (pos d n lim c) := by
      rw [r7]
      omega
    refine key 0 0 ((if_neg hL).trans (if_pos hq)) (Or.inl ⟨rfl, rfl⟩) ((if_neg hL).trans (by omega)) ?_
    unfold f_Tokens_begin_51
    rw [if_neg (by omega)]
