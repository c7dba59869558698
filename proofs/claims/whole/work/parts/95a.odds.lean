/-! weights: what the class weighs -/
theorem Sub_par {σ : xSt} {b w : Nat} : ∀ (d k e m i : Nat), Sub σ b w d k e m → k < i → i < e → ∃ p s : Nat, k ≤ p ∧ p < i ∧ σ (w + 1) p = 2 ∧ 0 ≤ σ (w + 2) p ∧ σ (w + 2) p < σ b 1 ∧ (s : Int) < σ (b + 3) (σ (w + 2) p).toNat ∧ σ (w + 3) i = (p : Int) ∧ σ (w + 4) i = (s : Int) := by
  intro d
  induction d with
  | zero =>
    intro k e m i h h1 h2
    have h3 := h.1
    omega
  | succ d ih =>
    intro k e m i h h1 h2
    rcases h with ⟨z, -⟩ | ⟨a1, a2, a3, f, hh, f0, fe, fs, fm⟩
    · omega
    · obtain ⟨s, s1, s2, s3⟩ := cover (f := f) (i := i) (by omega) (σ (b + 3) (σ (w + 2) k).toNat).toNat (by omega)
      have hs : (s : Int) < σ (b + 3) (σ (w + 2) k).toNat := by omega
      obtain ⟨g1, g2, g3, g4, g5⟩ := fs s hs
      have hin := sons_in (f := f) (N := σ (b + 3) (σ (w + 2) k).toNat) (k := k) (e := e) (fun s hs => (Sub_lt d _ _ _ (fs s hs).1).1) f0 fe hs
      by_cases hi : i = f s
      · subst hi
        exact ⟨k, s, Nat.le_refl k, h1, a1, a2, a3, hs, g2, g3⟩
      · obtain ⟨p, s', q1, q2, q3⟩ := ih _ _ _ i g1 (by omega) s3
        exact ⟨p, s', by omega, q2, q3⟩
theorem Inv0.par {σ : xSt} (h : Inv0 σ) {i : Nat} (h0 : 0 < i) (hi : (i : Int) < σ 16 0) : ∃ p s : Nat, p < i ∧ σ 17 p = 2 ∧ 0 ≤ σ 18 p ∧ σ 18 p < σ 7 1 ∧ (s : Int) < σ 10 (σ 18 p).toNat ∧ σ 19 i = (p : Int) ∧ σ 20 i = (s : Int) := by
  obtain ⟨p, s, -, q2, q3, q4, q5, q6, q7, q8⟩ := Sub_par 6 0 _ _ i (h.tree (by omega)).1 h0 (by omega)
  exact ⟨p, s, q2, q3, q4, q5, q6, q7, q8⟩
def wo (σ0 : xSt) (wh t : Nat) : Nat := if (t : Int) = σ0 7 3 then wh else (σ0 11 t).toNat
def pa (σ0 : xSt) (hd tl t s : Nat) : Nat := if (t : Int) = σ0 7 3 then (if s = 0 then hd else tl) else (σ0 12 (6 * t + s)).toNat
theorem psum_ge {f : Nat → Int} {s : Nat} : ∀ n : Nat, s < n → (∀ i : Nat, i < n → 0 ≤ f i) → f s ≤ psum f n ∧ 0 ≤ psum f n := by
  intro n
  induction n with
  | zero => exact fun h => absurd h (Nat.not_lt_zero _)
  | succ n ih =>
    intro h hf
    have e : psum f (n + 1) = psum f n + f n := rfl
    have hn := hf n (by omega)
    by_cases hs : s = n
    · subst hs
      have h0 : 0 ≤ psum f s := by
        have key : ∀ m : Nat, m ≤ s → 0 ≤ psum f m := by
          intro m
          induction m with
          | zero => exact fun _ => Int.le_refl _
          | succ m ihm =>
            intro hm
            have := ihm (by omega)
            have := hf m (by omega)
            have e2 : psum f (m + 1) = psum f m + f m := rfl
            omega
        exact key s (Nat.le_refl s)
      omega
    · have := ih (by omega) (fun i hi => hf i (by omega))
      omega
/-- bends as they may be -/
def Bnd (hd tl wh : Nat) : Prop := hd ≤ wh ∧ tl ≤ wh ∧ 1 ≤ wh ∧ wh ≤ 9
theorem wp_f {σ0 : xSt} (h : Inv0 σ0) {hd tl wh t s : Nat} (hb : Bnd hd tl wh) (ht : (t : Int) < σ0 7 1) (hs : (s : Int) < σ0 10 t) : 1 ≤ wo σ0 wh t ∧ wo σ0 wh t ≤ 9 ∧ pa σ0 hd tl t s ≤ wo σ0 wh t := by
  obtain ⟨b1, b2, b3, b4⟩ := hb
  have q := h.th (p := (t : Int)) (by omega) ht
  rw [Int.toNat_natCast] at q
  obtain ⟨-, q2, q3, -, q5, q6, q7, -, -, -, -, q12⟩ := q
  unfold wo pa
  by_cases ho : (t : Int) = σ0 7 3
  · rw [if_pos ho, if_pos ho]
    refine ⟨b3, b4, ?_⟩
    split <;> omega
  · rw [if_neg ho, if_neg ho]
    obtain ⟨d1, d2⟩ := q12 (fun z => ho z.symm)
    have g := psum_ge (f := fun s => σ0 12 (6 * t + s)) (s := s) (σ0 10 t).toNat (by omega) (fun i hi => (q7 i (by omega)).2.1)
    have r := (q7 s hs).2
    have g1 : σ0 12 (6 * t + s) ≤ psum (fun s => σ0 12 (6 * t + s)) (σ0 10 t).toNat := g.1
    refine ⟨by omega, by omega, by omega⟩
/-- all parts, six times each -/
def AL (σ0 : xSt) (wh : Nat) : Nat → Nat
  | 0 => 1
  | t + 1 => AL σ0 wh t * (wo σ0 wh t) ^ 6
theorem AL_f {σ0 : xSt} (h : Inv0 σ0) {hd tl wh : Nat} (hb : Bnd hd tl wh) : ∀ t : Nat, (t : Int) ≤ σ0 7 1 → 1 ≤ AL σ0 wh t ∧ AL σ0 wh t ≤ 531441 ^ t := by
  intro t
  induction t with
  | zero => exact fun _ => ⟨Nat.le_refl _, Nat.le_refl _⟩
  | succ t ih =>
    intro ht
    obtain ⟨i1, i2⟩ := ih (by omega)
    have q := h.th (p := (t : Int)) (by omega) (by omega)
    rw [Int.toNat_natCast] at q
    obtain ⟨w1, w2, -⟩ := wp_f (s := 0) h hb (show (t : Int) < σ0 7 1 by omega) (by have := q.2.1; omega)
    have p1 : (wo σ0 wh t) ^ 6 ≤ 9 ^ 6 := Nat.pow_le_pow_left w2 6
    have p2 : 1 ≤ (wo σ0 wh t) ^ 6 := Nat.pow_pos w1
    have p3 : (9 : Nat) ^ 6 = 531441 := by decide
    have e : 531441 ^ (t + 1) = 531441 ^ t * 531441 := Nat.pow_succ _ _
    refine ⟨Nat.mul_pos i1 p2, ?_⟩
    show AL σ0 wh t * (wo σ0 wh t) ^ 6 ≤ _
    rw [e]
    exact Nat.mul_le_mul i2 (by omega)
theorem AL_3 {σ0 : xSt} (h : Inv0 σ0) {hd tl wh t : Nat} (hb : Bnd hd tl wh) (ht : (t : Int) ≤ σ0 7 1) : 1 ≤ AL σ0 wh t ∧ AL σ0 wh t ≤ 150094635296999121 := by
  have h1 := AL_f h hb t ht
  have h3 := h.things.2.2
  have h2 : 531441 ^ t ≤ 531441 ^ 3 := Nat.pow_le_pow_right (by decide) (by omega)
  have h4 : (531441 : Nat) ^ 3 = 150094635296999121 := by decide
  omega
/-- the class's WAY, table and bend -/
def SmO (σ0 : xSt) (hd tl wh : Nat) (σ : xSt) : Prop := SmW σ0 σ ∧ σ 87 10 = (hd : Int) ∧ σ 87 11 = (tl : Int) ∧ σ 87 12 = (wh : Int)
theorem x_woO {σ0 σ : xSt} (h : Inv0 σ0) {hd tl wh t : Nat} (hs : SmO σ0 hd tl wh σ) (ht : (t : Int) < σ0 7 1) : f_Odds_wholeOf (t : Int) σ = some (wo σ0 wh t : Int) := by
  obtain ⟨s1, s2, s3, s4⟩ := hs
  have e71 : σ 7 1 = σ0 7 1 := s1 7 1 (by decide) (by decide)
  have h3 := h.things.2.2
  have q := h.th (p := (t : Int)) (by omega) ht
  rw [Int.toNat_natCast] at q
  obtain ⟨-, -, -, -, q5, -⟩ := q
  unfold f_Odds_wholeOf wo
  rw [s1 7 3 (by decide) (by decide)]
  by_cases ho : (t : Int) = σ0 7 3
  · rw [if_pos ho, if_pos ho, s4]
  · rw [if_neg ho, if_neg ho, x_allParts (by omega), if_pos (by omega), xbR_s, Int.toNat_natCast, s1 11 t (by decide) (by decide)]
    congr 1
    omega
theorem x_paO {σ0 σ : xSt} (h : Inv0 σ0) {hd tl wh t s : Nat} (hs : SmO σ0 hd tl wh σ) (ht : (t : Int) < σ0 7 1) (hsd : (s : Int) < σ0 10 t) : f_Odds_partOf (t : Int) (s : Int) σ = some (pa σ0 hd tl t s : Int) := by
  obtain ⟨s1, s2, s3, s4⟩ := hs
  have e71 : σ 7 1 = σ0 7 1 := s1 7 1 (by decide) (by decide)
  have h3 := h.things.2.2
  have q := h.th (p := (t : Int)) (by omega) ht
  rw [Int.toNat_natCast] at q
  obtain ⟨-, -, q3, -, -, -, q7, -⟩ := q
  have r := (q7 s hsd).2
  unfold f_Odds_partOf pa
  rw [s1 7 3 (by decide) (by decide)]
  by_cases ho : (t : Int) = σ0 7 3
  · rw [if_pos ho, if_pos ho]
    by_cases hz : s = 0
    · rw [if_pos (by omega), if_pos hz, s2]
    · rw [if_neg (by omega), if_neg hz, s3]
  · rw [if_neg ho, if_neg ho, x_partsOf (by omega), if_pos (by omega), xbR_s, Int.toNat_natCast, Int.toNat_natCast, s1 12 _ (by decide) (by decide)]
    congr 1
    omega
/-- weights, heads and tails along the WAY -/
def XRec (σ0 : xSt) (hd tl wh al : Nat) (X H T : Nat → Nat) (k : Nat) : Prop :=
  (k = 0 → X k = al ∧ H k = 0 ∧ T k = 0) ∧ (0 < k → ∀ p s t : Nat, σ0 19 k = (p : Int) → σ0 20 k = (s : Int) → σ0 18 p = (t : Int) → X k = X p / wo σ0 wh t * pa σ0 hd tl t s ∧ H k = H p + (if (t : Int) = σ0 7 3 ∧ s = 0 then 1 else 0) ∧ T k = T p + (if (t : Int) = σ0 7 3 ∧ s = 1 then 1 else 0))
theorem w32_0 {a : Nat} (h : a < 100000) : w32 ((a : Int) + 0) = (a : Int) := (w32_o (by omega) (by omega)).trans (by omega)
theorem x_weighO {σ0 σ : xSt} (h : Inv0 σ0) {hd tl wh al k : Nat} (hb : Bnd hd tl wh) (hs : SmO σ0 hd tl wh σ) (hal : σ 87 7 = (al : Int)) (hal2 : al ≤ 150094635296999121) (hk : (k : Int) < σ0 16 0) {X H T : Nat → Nat} (hX : ∀ j : Nat, j < k → X j ≤ al ∧ H j ≤ j ∧ T j ≤ j ∧ σ 88 j = (X j : Int) ∧ σ 89 j = (H j : Int) ∧ σ 90 j = (T j : Int)) :
    ∃ (σ' : xSt) (x a b : Nat), f_Odds_weigh (k : Int) σ = some σ' ∧ x ≤ al ∧ a ≤ k ∧ b ≤ k ∧ σ' 88 k = (x : Int) ∧ σ' 89 k = (a : Int) ∧ σ' 90 k = (b : Int) ∧ (k = 0 → x = al ∧ a = 0 ∧ b = 0) ∧ (0 < k → ∀ p s t : Nat, σ0 19 k = (p : Int) → σ0 20 k = (s : Int) → σ0 18 p = (t : Int) → x = X p / wo σ0 wh t * pa σ0 hd tl t s ∧ a = H p + (if (t : Int) = σ0 7 3 ∧ s = 0 then 1 else 0) ∧ b = T p + (if (t : Int) = σ0 7 3 ∧ s = 1 then 1 else 0)) ∧
      ∀ c q, (c = 88 ∨ c = 89 ∨ c = 90 → q ≠ k) → σ' c q = σ c q := by
  obtain ⟨s1, s2, s3, s4⟩ := hs
  have h80 := h.nodes
  have e16 : σ 16 0 = σ0 16 0 := s1 16 0 (by decide) (by decide)
  have b80 : 0 ≤ (k : Int) ∧ (k : Int) < 80 := by omega
  have bk : 0 ≤ (k : Int) ∧ (k : Int) < σ 16 0 := by omega
  have n80 : σ 16 0 ≤ 80 := by omega
  obtain ⟨σ4, hσ4⟩ : ∃ s, s = upS (upS (upS σ 88 k (al : Int)) 89 k 0) 90 k 0 := ⟨_, rfl⟩
  have fr3 : ∀ c q, c ≠ 88 → c ≠ 89 → c ≠ 90 → σ4 c q = σ c q := fun c q h1 h2 h3 => by rw [hσ4, upS_ne h3, upS_ne h2, upS_ne h1]
  have fr4 : ∀ c q, (c = 88 ∨ c = 89 ∨ c = 90 → q ≠ k) → σ4 c q = σ c q := fun c q h1 => by
    rw [hσ4, upS_rd, if_neg (fun z => h1 (Or.inr (Or.inr z.1)) z.2), upS_rd, if_neg (fun z => h1 (Or.inr (Or.inl z.1)) z.2), upS_rd, if_neg (fun z => h1 (Or.inl z.1) z.2)]
  have S4 : SmO σ0 hd tl wh σ4 := ⟨fun a q z1 z2 => by rw [fr3 a q (by omega) (by omega) (by omega)]; exact s1 a q z1 z2, by rw [fr3 87 10 (by decide) (by decide) (by decide), s2], by rw [fr3 87 11 (by decide) (by decide) (by decide), s3], by rw [fr3 87 12 (by decide) (by decide) (by decide), s4]⟩
  have e16' : σ4 16 0 = σ0 16 0 := by rw [fr3 16 0 (by decide) (by decide) (by decide), e16]
  have n80' : σ4 16 0 ≤ 80 := by omega
  have bk' : 0 ≤ (k : Int) ∧ (k : Int) < σ4 16 0 := by omega
  have e73 : σ4 7 3 = σ0 7 3 := S4.1 7 3 (by decide) (by decide)
  have hT := h.things
  by_cases hk0 : k = 0
  · have h19 := (h.tree (by omega)).2.2
    have hpar : f_Way_parentOf (k : Int) σ4 = some (-1) := by rw [x_parentOf n80', if_pos bk', Int.toNat_natCast, S4.1 19 k (by decide) (by decide), hk0, h19]
    have hwh : f_Way_whichAt (-1) σ4 = some (-1) := by rw [x_whichAt n80', if_neg (by omega)]
    obtain ⟨v, hv⟩ : ∃ v, f_Odds_wholeOf (-1) σ4 = some v := by
      unfold f_Odds_wholeOf
      by_cases ho : -1 = σ4 7 3
      · exact ⟨_, by rw [if_pos ho]⟩
      · exact ⟨_, by rw [if_neg ho, x_allParts (by rw [S4.1 7 1 (by decide) (by decide)]; omega), xbR_s]⟩
    refine ⟨σ4, al, 0, 0, ?_, Nat.le_refl _, Nat.zero_le _, Nat.zero_le _, ?_, ?_, ?_, fun _ => ⟨rfl, rfl, rfl⟩, fun z => absurd z (by omega), fr4⟩
    · unfold f_Odds_weigh
      rw [x_isWithin, if_pos b80, xbR_s, if_neg (by decide), if_pos b80, Int.toNat_natCast, hal, xlet_s, if_pos b80, xlet_s, if_pos b80, xlet_s, ← hσ4, hpar, xbR_s, hwh, xbR_s, hv, xbR_s, x_isWithin, if_neg (by decide), xbR_s, if_pos rfl]
    · rw [hσ4, upS_ne (by decide), upS_ne (by decide), upS_eq]
    · rw [hσ4, upS_ne (by decide), upS_eq]
      rfl
    · rw [hσ4, upS_eq]
      rfl
  · obtain ⟨p, s, q1, q2, q3, q4, q5, q6, q7⟩ := h.par (by omega) hk
    obtain ⟨t, ht⟩ : ∃ t : Nat, σ0 18 p = (t : Int) := ⟨(σ0 18 p).toNat, by omega⟩
    have htl : (t : Int) < σ0 7 1 := by omega
    rw [ht, Int.toNat_natCast] at q5
    have bp : 0 ≤ (p : Int) ∧ (p : Int) < σ4 16 0 := by omega
    have bp80 : 0 ≤ (p : Int) ∧ (p : Int) < 80 := by omega
    obtain ⟨w1, w2, w3⟩ := wp_f h hb htl q5
    obtain ⟨x1, x2, x3, x4, x5, x6⟩ := hX p q1
    have hpar : f_Way_parentOf (k : Int) σ4 = some (p : Int) := by rw [x_parentOf n80', if_pos bk', Int.toNat_natCast, S4.1 19 k (by decide) (by decide), q6]
    have hwh : f_Way_whichAt (p : Int) σ4 = some (t : Int) := by rw [x_whichAt n80', if_pos bp, Int.toNat_natCast, S4.1 18 p (by decide) (by decide), ht]
    have hsd : f_Way_sideTo (k : Int) σ4 = some (s : Int) := by rw [x_sideTo n80', if_pos bk', Int.toNat_natCast, S4.1 20 k (by decide) (by decide), q7]
    have hwo := x_woO h S4 htl
    have hpa := x_paO h S4 htl q5
    have p88 : σ4 88 p = (X p : Int) := by rw [fr4 88 p (fun _ => by omega)]; exact x4
    have p89 : ∀ v, (upS σ4 88 k v) 89 p = (H p : Int) := fun v => by rw [upS_ne (by decide), fr4 89 p (fun _ => by omega)]; exact x5
    have p90 : ∀ v w, (upS (upS σ4 88 k v) 89 k w) 90 p = (T p : Int) := fun v w => by rw [upS_ne (by decide), upS_ne (by decide), fr4 90 p (fun _ => by omega)]; exact x6
    have w0 : ¬ (wo σ0 wh t : Int) < 1 := by omega
    have w00 : ¬ (wo σ0 wh t : Int) = 0 := by omega
    have xl : X p < 9223372036854775808 := by omega
    have xle : X p / wo σ0 wh t * pa σ0 hd tl t s ≤ X p := Nat.le_trans (Nat.mul_le_mul (Nat.le_refl _) w3) (Nat.div_mul_le_self _ _)
    have xl2 : X p / wo σ0 wh t * pa σ0 hd tl t s < 9223372036854775808 := by omega
    have hp79 : H p + 1 < 100000 := by omega
    have tp79 : T p + 1 < 100000 := by omega
    have xd : xldiv (X p : Int) (wo σ0 wh t : Int) = ((X p / wo σ0 wh t : Nat) : Int) := xldiv_n xl
    generalize hxv : X p / wo σ0 wh t * pa σ0 hd tl t s = xv at xle xl2
    -- heads and tails
    have hpl : H p < 100000 := by omega
    have tpl : T p < 100000 := by omega
    have bxv : xv ≤ al := by omega
    have bH : ∀ b : Nat, b ≤ 1 → H p + b ≤ k := fun b hb => by omega
    have bT : ∀ b : Nat, b ≤ 1 → T p + b ≤ k := fun b hb => by omega
    have u1 : ∀ p' : Nat, σ0 19 k = (p' : Int) → p' = p := fun p' z => by omega
    have u2 : ∀ s' : Nat, σ0 20 k = (s' : Int) → s' = s := fun s' z => by omega
    have u3 : ∀ t' : Nat, σ0 18 p = (t' : Int) → t' = t := fun t' z => by omega
    have v1 : s = 1 → (s : Int) = 1 := fun z => by omega
    have v2 : s ≠ 1 → ¬ (s : Int) = 1 := fun z => by omega
    have v3 : s = 0 → (s : Int) = 0 := fun z => by omega
    have v4 : s ≠ 0 → ¬ (s : Int) = 0 := fun z => by omega
    have hh1 : w32 ((H p : Int) + 1) = ((H p + 1 : Nat) : Int) := w32_n1 hpl
    have hh0 : w32 ((H p : Int) + 0) = (H p : Int) := w32_0 hpl
    have tt1 : w32 ((T p : Int) + 1) = ((T p + 1 : Nat) : Int) := w32_n1 tpl
    have tt0 : w32 ((T p : Int) + 0) = (T p : Int) := w32_0 tpl
    have e73' : ∀ v, (upS σ4 88 k v) 7 3 = σ0 7 3 := fun v => by rw [upS_ne (by decide), e73]
    have e73'' : ∀ v w, (upS (upS σ4 88 k v) 89 k w) 7 3 = σ0 7 3 := fun v w => by rw [upS_ne (by decide), e73']
    have head : f_Odds_weigh (k : Int) σ = (if (t : Int) = σ0 7 3 then (if (s : Int) = 0 then (f_Odds_weigh_141 (k : Int) (p : Int) (t : Int) (s : Int) 1 (H p : Int) (k : Int) (upS σ4 88 k (xv : Int))) else (f_Odds_weigh_140 (k : Int) (p : Int) (t : Int) (s : Int) (H p : Int) (k : Int) (upS σ4 88 k (xv : Int)))) else (f_Odds_weigh_140 (k : Int) (p : Int) (t : Int) (s : Int) (H p : Int) (k : Int) (upS σ4 88 k (xv : Int)))) := by
      unfold f_Odds_weigh
      rw [x_isWithin, if_pos b80, xbR_s, if_neg (by decide), if_pos b80, Int.toNat_natCast, hal, xlet_s, if_pos b80, xlet_s, if_pos b80, xlet_s, ← hσ4, hpar, xbR_s, hwh, xbR_s, hwo, xbR_s, x_isWithin, if_pos bp80, xbR_s, if_neg (by decide), if_neg w0, hsd, xbR_s, if_pos bp80, if_neg w00, hpa, xbR_s, if_pos b80, Int.toNat_natCast, p88, xd, w64_mul (by rw [hxv]; exact xl2), hxv, xlet_s, if_pos bp80, e73', p89]
    have t141 : ∀ d, f_Odds_weigh_141 (k : Int) (p : Int) (t : Int) (s : Int) d (H p : Int) (k : Int) (upS σ4 88 k (xv : Int)) = some (upS (upS (upS σ4 88 k (xv : Int)) 89 k (w32 ((H p : Int) + d))) 90 k ((T p + (if (t : Int) = σ0 7 3 ∧ s = 1 then 1 else 0) : Nat) : Int)) := by
      intro d
      unfold f_Odds_weigh_141 f_Odds_weigh_174 f_Odds_weigh_175
      rw [if_pos b80, Int.toNat_natCast, xlet_s, if_pos bp80, e73'', Int.toNat_natCast, p90]
      by_cases ho : (t : Int) = σ0 7 3
      · rw [if_pos ho]
        by_cases hs1 : s = 1
        · rw [if_pos (v1 hs1), if_pos b80, tt1, xlet_s, if_pos ⟨ho, hs1⟩]
        · rw [if_neg (v2 hs1), if_pos b80, tt0, xlet_s, if_neg (fun z => hs1 z.2), Nat.add_zero]
      · rw [if_neg ho, if_pos b80, tt0, xlet_s, if_neg (fun z => ho z.1), Nat.add_zero]
    have res : f_Odds_weigh (k : Int) σ = some (upS (upS (upS σ4 88 k (xv : Int)) 89 k ((H p + (if (t : Int) = σ0 7 3 ∧ s = 0 then 1 else 0) : Nat) : Int)) 90 k ((T p + (if (t : Int) = σ0 7 3 ∧ s = 1 then 1 else 0) : Nat) : Int)) := by
      rw [head]
      unfold f_Odds_weigh_140
      by_cases ho : (t : Int) = σ0 7 3
      · rw [if_pos ho]
        by_cases hs0 : s = 0
        · rw [if_pos (v3 hs0), t141, hh1, if_pos (show (t : Int) = σ0 7 3 ∧ s = 0 from ⟨ho, hs0⟩)]
        · rw [if_neg (v4 hs0), t141, hh0, if_neg (fun z : (t : Int) = σ0 7 3 ∧ s = 0 => hs0 z.2), Nat.add_zero]
      · rw [if_neg ho, t141, hh0, if_neg (fun z : (t : Int) = σ0 7 3 ∧ s = 0 => ho z.1), Nat.add_zero]
    refine ⟨_, xv, H p + (if (t : Int) = σ0 7 3 ∧ s = 0 then 1 else 0), T p + (if (t : Int) = σ0 7 3 ∧ s = 1 then 1 else 0), res, bxv, bH _ (by split <;> decide), bT _ (by split <;> decide), ?_, ?_, ?_, fun z => absurd z hk0, fun _ p' s' t' z1 z2 z3 => ?_, fun c q hc => ?_⟩
    · rw [upS_ne (by decide), upS_ne (by decide), upS_eq]
    · rw [upS_ne (by decide), upS_eq]
    · rw [upS_eq]
    · obtain rfl := u1 p' z1
      obtain rfl := u2 s' z2
      obtain rfl := u3 t' z3
      exact ⟨hxv.symm, rfl, rfl⟩
    · rw [upS_rd, if_neg (fun z => hc (Or.inr (Or.inr z.1)) z.2), upS_rd, if_neg (fun z => hc (Or.inr (Or.inl z.1)) z.2), upS_rd, if_neg (fun z => hc (Or.inl z.1) z.2), fr4 c q hc]
