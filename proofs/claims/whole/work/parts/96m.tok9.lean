/-! TOKENS: readToken, begin -/
theorem x_isS {c : Int} {σ : xSt} : f_Tokens_isSign c σ = some (if kS c = true then 1 else 0) := by
  unfold f_Tokens_isSign
  by_cases hs : kS c = true
  · have hs2 := kS_i.mp hs
    rw [if_pos hs]
    (repeat' split) <;> first | rfl | (exfalso; omega)
  · have hs2 : ¬ (c = 59 ∨ c = 58 ∨ c = 60 ∨ c = 61 ∨ c = 62 ∨ c = 40 ∨ c = 41) := fun z => hs (kS_i.mpr z)
    rw [if_neg hs]
    (repeat' split) <;> first | rfl | (exfalso; omega)
theorem x_rtok {d : Nat → Int} {n q c : Nat} {σ : xSt} (hT : TapX d n σ) (hq : q < n) (hc : σ 2 4 = (c : Int)) (hc2 : c ≤ 640) :
    ((d q = 32 ∨ d q = 10) → f_Tokens_readToken (q : Int) (n : Int) σ = some (((q + 1 : Nat) : Int), σ)) ∧
    (¬ (d q = 32 ∨ d q = 10) → ∃ (σ' : xSt) (s v : Int), f_Tokens_readToken (q : Int) (n : Int) σ = some ((eq' d n q : Int), σ') ∧ RecK d n q (kq d n q) s v ∧ Row3 σ' c s v (q : Int) ∧ σ' 2 4 = ((c + 1 : Nat) : Int) ∧ frA c σ σ') := by
  have h640 := hT.1
  obtain ⟨t1, t2, t3⟩ := hT.2 q hq
  have b640 : 0 ≤ (q : Int) ∧ (q : Int) < 640 := by omega
  have n1 : q < 100000 := by omega
  have st : f_Tokens_readToken (q : Int) (n : Int) σ = f_Tokens_readToken_23 (q : Int) (n : Int) (w8 (d q)) σ := by
    unfold f_Tokens_readToken
    rw [x_isWithin, if_pos b640, xbR_s, if_neg (by decide), if_pos b640, Int.toNat_natCast, t1]
  have ew := w8_ch t2 t3
  by_cases hk : kL (d q) = true ∨ kD (d q) = true
  · have hne : ¬ (d q = 32 ∨ d q = 10) := by
      rcases hk with z | z
      · have := kL_i.mp z
        omega
      · have := kD_i.mp z
        omega
    refine ⟨fun z => absurd z hne, fun _ => ?_⟩
    obtain ⟨σ', s, v, a1, a2⟩ := x_rrun hT hq hk hc hc2
    have e38 : f_Tokens_readToken_38 (q : Int) (n : Int) σ = some ((runQ d n (n - q) : Int), σ') := by
      unfold f_Tokens_readToken_38
      rw [a1, xbW_s]
    refine ⟨σ', s, v, ?_, a2⟩
    have ee : eq' d n q = runQ d n (n - q) := if_pos hk
    rw [st, ee]
    unfold f_Tokens_readToken_23
    rw [x_isL, xbR_s, kL_8 t2 t3]
    by_cases h1 : kL (d q) = true
    · rw [if_pos h1, if_neg (by decide), e38]
    · rw [if_neg h1, if_pos rfl, x_isD, xbR_s, kD_8 t2 t3, if_pos (hk.resolve_left h1), if_neg (by decide), e38]
  · have h1 : ¬ kL (d q) = true := fun z => hk (Or.inl z)
    have h2 : ¬ kD (d q) = true := fun z => hk (Or.inr z)
    have st2 : f_Tokens_readToken (q : Int) (n : Int) σ = (if w8 (d q) = 32 then (some (((q + 1 : Nat) : Int), σ)) else (if w8 (d q) = 10 then (some (((q + 1 : Nat) : Int), σ)) else (xbR (some (if kS (w8 (d q)) = true then (1 : Int) else 0)) fun r4 => if r4 = 0 then (f_Tokens_readToken_71 (q : Int) (w8 (d q)) 2 σ) else (f_Tokens_readToken_71 (q : Int) (w8 (d q)) 6 σ)))) := by
      rw [st]
      unfold f_Tokens_readToken_23
      rw [x_isL, xbR_s, kL_8 t2 t3, if_neg h1, if_pos rfl, x_isD, xbR_s, kD_8 t2 t3, if_neg h2, if_pos rfl, x_isS, w32_n1 n1]
    refine ⟨fun z => ?_, fun z => ?_⟩
    · have e8 : w8 (d q) = d q := by rw [ew, if_pos (by omega)]
      rw [st2, e8]
      by_cases h32 : d q = 32
      · rw [if_pos h32]
      · rw [if_neg h32, if_pos (z.resolve_left h32)]
    · have n32 : ¬ w8 (d q) = 32 := by
        rw [ew]
        split <;> omega
      have n10 : ¬ w8 (d q) = 10 := by
        rw [ew]
        split <;> omega
      rw [if_neg n32, if_neg n10, xbR_s] at st2
      have ee : eq' d n q = q + 1 := if_neg hk
      have ek : kq d n q = (if kS (d q) = true then 6 else 2) := if_neg hk
      have e71 : ∀ s s', f_Tokens_add s (w8 (d q)) (q : Int) σ = some s' → f_Tokens_readToken_71 (q : Int) (w8 (d q)) s σ = some (((q + 1 : Nat) : Int), s') := fun s s' h => by
        unfold f_Tokens_readToken_71
        rw [h, xbR_s, w32_n1 n1]
      by_cases hs : kS (d q) = true
      · have hs2 := kS_i.mp hs
        have e8 : w8 (d q) = d q := by rw [ew, if_pos (by omega)]
        obtain ⟨s', a1, a2, a3, a4⟩ := x_tadd hc hc2 6 (w8 (d q)) (q : Int)
        rw [if_pos hs] at ek
        refine ⟨s', 6, w8 (d q), ?_, ?_, a3, a2, a4⟩
        · rw [st2, e8, if_pos hs, if_neg (by decide), ← e8, e71 6 s' a1, ee]
        · rw [ek]
          exact ⟨fun z => by omega, fun z => by omega, fun _ => ⟨rfl, e8⟩, fun z => by omega, fun z => by omega, fun z => by omega⟩
      · have hs8 : ¬ kS (w8 (d q)) = true := fun y => by
          have y2 := kS_i.mp y
          rw [ew] at y2
          refine hs (kS_i.mpr ?_)
          split at y2 <;> omega
        obtain ⟨s', a1, a2, a3, a4⟩ := x_tadd hc hc2 2 (w8 (d q)) (q : Int)
        rw [if_neg hs] at ek
        refine ⟨s', 2, w8 (d q), ?_, ?_, a3, a2, a4⟩
        · rw [st2, if_neg hs8, if_pos rfl, e71 2 s' a1, ee]
        · rw [ek]
          exact ⟨fun z => by omega, fun z => by omega, fun z => by omega, fun _ => rfl, fun z => by omega, fun z => by omega⟩
