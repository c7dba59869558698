/-! weights: the class's sums -/
def upN (f : Nat → Nat) (k v : Nat) : Nat → Nat := fun i => if i = k then v else f i
theorem upN_eq {f : Nat → Nat} {k v : Nat} : upN f k v k = v := if_pos rfl
theorem upN_ne {f : Nat → Nat} {k v i : Nat} (h : i ≠ k) : upN f k v i = f i := if_neg h
theorem w64_addw {a b : Int} : w64 (w64 a + b) = w64 (a + b) := by
  unfold w64
  exact Int.bmod_add_bmod
def gE (σ0 : xSt) (X : Nat → Nat) (i j : Nat) : Nat := if σ0 17 j = 0 ∧ σ0 18 j = (i : Int) then X j else 0
def gA (σ0 : xSt) (X : Nat → Nat) (j : Nat) : Nat := if σ0 17 j = 1 then X j else 0
def gT (σ0 : xSt) (X : Nat → Nat) (j : Nat) : Nat := if σ0 17 j = 2 then X j else 0
theorem x_tallyO {σ0 σ : xSt} (h : Inv0 σ0) {k : Nat} {X : Nat → Nat} (hs : SmW σ0 σ) (hk : (k : Int) < σ0 16 0) (h88 : σ 88 k = (X k : Int)) (hA : σ 87 8 = w64 (nsum (gA σ0 X) k : Int)) (hT : σ 87 9 = w64 (nsum (gT σ0 X) k : Int)) (hE : ∀ i : Nat, i < 6 → σ 91 i = w64 (nsum (gE σ0 X i) k : Int)) :
    ∃ σ', f_Odds_tally (k : Int) σ = some σ' ∧ σ' 87 8 = w64 (nsum (gA σ0 X) (k + 1) : Int) ∧ σ' 87 9 = w64 (nsum (gT σ0 X) (k + 1) : Int) ∧ (∀ i : Nat, i < 6 → σ' 91 i = w64 (nsum (gE σ0 X i) (k + 1) : Int)) ∧ ∀ a q, a ≠ 91 → (a = 87 → q ≠ 8 ∧ q ≠ 9) → σ' a q = σ a q := by
  have h80 := h.nodes
  have hte := h.ends
  have e16 : σ 16 0 = σ0 16 0 := hs 16 0 (by decide) (by decide)
  have b80 : 0 ≤ (k : Int) ∧ (k : Int) < 80 := by omega
  have bk : 0 ≤ (k : Int) ∧ (k : Int) < σ 16 0 := by omega
  have n80 : σ 16 0 ≤ 80 := by omega
  have hd := (h.nd (p := (k : Int)) (by omega) hk).2.2.2.2
  rw [Int.toNat_natCast] at hd
  have hso : f_Way_sortAt (k : Int) σ = some (σ0 17 k) := by rw [x_sortAt n80, if_pos bk, Int.toNat_natCast, hs 17 k (by decide) (by decide)]
  have hwh : f_Way_whichAt (k : Int) σ = some (σ0 18 k) := by rw [x_whichAt n80, if_pos bk, Int.toNat_natCast, hs 18 k (by decide) (by decide)]
  have sA : nsum (gA σ0 X) (k + 1) = nsum (gA σ0 X) k + gA σ0 X k := rfl
  have sT : nsum (gT σ0 X) (k + 1) = nsum (gT σ0 X) k + gT σ0 X k := rfl
  have sE : ∀ i, nsum (gE σ0 X i) (k + 1) = nsum (gE σ0 X i) k + gE σ0 X i k := fun _ => rfl
  have start : f_Odds_tally (k : Int) σ = (if σ0 17 k = 2 then (xlet (upS σ 87 9 (w64 ((σ 87 9) + (X k : Int)))) fun σ3 => some σ3) else if σ0 17 k = 1 then (xlet (upS σ 87 8 (w64 ((σ 87 8) + (X k : Int)))) fun σ5 => some σ5) else (xbR (f_X_isWithin (σ0 18 k) 6 σ) fun r7 => if r7 = 0 then (some σ) else (if 0 ≤ σ0 18 k ∧ σ0 18 k < 6 then (if 0 ≤ σ0 18 k ∧ σ0 18 k < 6 then (xlet (upS σ 91 (σ0 18 k).toNat (w64 ((σ 91 (σ0 18 k).toNat) + (X k : Int)))) fun σ9 => some σ9) else none) else none))) := by
    unfold f_Odds_tally
    rw [x_isWithin, if_pos b80, xbR_s, if_neg (by decide), hso, xbR_s]
    by_cases h2 : σ0 17 k = 2
    · rw [if_pos h2, if_pos h2, if_pos b80, Int.toNat_natCast, h88]
    · rw [if_neg h2, if_neg h2, xbR_s]
      by_cases h1 : σ0 17 k = 1
      · rw [if_pos h1, if_pos h1, if_pos b80, Int.toNat_natCast, h88]
      · rw [if_neg h1, if_neg h1, hwh, xbR_s, xbR_s, if_pos b80, Int.toNat_natCast, h88]
  rw [start]
  rcases hd with ⟨d1, d2, d3⟩ | ⟨d1, -⟩ | ⟨d1, -⟩
  · have b6 : 0 ≤ σ0 18 k ∧ σ0 18 k < 6 := by omega
    obtain ⟨i, hi⟩ : ∃ i : Nat, σ0 18 k = (i : Int) := ⟨(σ0 18 k).toNat, by omega⟩
    have i6 : i < 6 := by omega
    have zA : gA σ0 X k = 0 := by unfold gA; rw [if_neg (by omega)]
    have zT : gT σ0 X k = 0 := by unfold gT; rw [if_neg (by omega)]
    refine ⟨upS σ 91 i (w64 ((nsum (gE σ0 X i) (k + 1) : Nat) : Int)), ?_, ?_, ?_, fun j hj => ?_, fun a q ha _ => upS_ne ha⟩
    · rw [if_neg (by omega), if_neg (by omega), x_isWithin, if_pos b6, xbR_s, if_neg (by decide), if_pos b6, if_pos b6, hi, Int.toNat_natCast, hE i i6, w64_addw, xlet_s]
      have e : ((nsum (gE σ0 X i) k : Nat) : Int) + (X k : Int) = ((nsum (gE σ0 X i) (k + 1) : Nat) : Int) := by
        have g : gE σ0 X i k = X k := by unfold gE; rw [if_pos ⟨d1, hi⟩]
        rw [sE, g, Int.natCast_add]
      rw [e]
    · rw [upS_ne (by decide), sA, zA, Nat.add_zero, hA]
    · rw [upS_ne (by decide), sT, zT, Nat.add_zero, hT]
    · by_cases hz : j = i
      · rw [hz, upS_eq]
      · have g : gE σ0 X j k = 0 := by unfold gE; rw [if_neg (by omega)]
        rw [upS_nk hz, sE, g, Nat.add_zero, hE j hj]
  · have zE : ∀ i, gE σ0 X i k = 0 := fun i => by unfold gE; rw [if_neg (by omega)]
    have zT : gT σ0 X k = 0 := by unfold gT; rw [if_neg (by omega)]
    refine ⟨upS σ 87 8 (w64 ((nsum (gA σ0 X) (k + 1) : Nat) : Int)), ?_, ?_, ?_, fun j hj => ?_, fun a q _ hb => by rw [upS_rd, if_neg (fun z => (hb z.1).1 z.2)]⟩
    · have e : ((nsum (gA σ0 X) k : Nat) : Int) + (X k : Int) = ((nsum (gA σ0 X) (k + 1) : Nat) : Int) := by
        have g : gA σ0 X k = X k := by unfold gA; rw [if_pos d1]
        rw [sA, g, Int.natCast_add]
      rw [if_neg (by omega), if_pos d1, hA, w64_addw, e, xlet_s]
    · rw [upS_eq]
    · rw [upS_nk (by decide), sT, zT, Nat.add_zero, hT]
    · rw [upS_ne (by decide), sE, zE, Nat.add_zero, hE j hj]
  · have zE : ∀ i, gE σ0 X i k = 0 := fun i => by unfold gE; rw [if_neg (by omega)]
    have zA : gA σ0 X k = 0 := by unfold gA; rw [if_neg (by omega)]
    refine ⟨upS σ 87 9 (w64 ((nsum (gT σ0 X) (k + 1) : Nat) : Int)), ?_, ?_, ?_, fun j hj => ?_, fun a q _ hb => by rw [upS_rd, if_neg (fun z => (hb z.1).2 z.2)]⟩
    · have e : ((nsum (gT σ0 X) k : Nat) : Int) + (X k : Int) = ((nsum (gT σ0 X) (k + 1) : Nat) : Int) := by
        have g : gT σ0 X k = X k := by unfold gT; rw [if_pos d1]
        rw [sT, g, Int.natCast_add]
      rw [if_pos d1, hT, w64_addw, e, xlet_s]
    · rw [upS_nk (by decide), sA, zA, Nat.add_zero, hA]
    · rw [upS_eq]
    · rw [upS_ne (by decide), sE, zE, Nat.add_zero, hE j hj]
def SpX (σ0 : xSt) (hd tl wh al k : Nat) (X H T : Nat → Nat) (σ : xSt) : Prop :=
  SmO σ0 hd tl wh σ ∧ σ 87 7 = (al : Int) ∧ (∀ j : Nat, j < k → X j ≤ al ∧ H j ≤ j ∧ T j ≤ j ∧ σ 88 j = (X j : Int) ∧ σ 89 j = (H j : Int) ∧ σ 90 j = (T j : Int)) ∧ (∀ j : Nat, j < k → XRec σ0 hd tl wh al X H T j) ∧
  σ 87 8 = w64 (nsum (gA σ0 X) k : Int) ∧ σ 87 9 = w64 (nsum (gT σ0 X) k : Int) ∧ ∀ i : Nat, i < 6 → σ 91 i = w64 (nsum (gE σ0 X i) k : Int)
theorem x_spr99 {σ0 : xSt} (h : Inv0 σ0) {hd tl wh al n : Nat} (hb : Bnd hd tl wh) (hal2 : al ≤ 150094635296999121) (hn : σ0 16 0 = (n : Int)) : ∀ (j fu k : Nat) (σ : xSt) (X H T : Nat → Nat), k + j = n → j < fu → SpX σ0 hd tl wh al k X H T σ → ∃ σ' X' H' T', f_Odds_spread_99 fu (k : Int) σ = some σ' ∧ SpX σ0 hd tl wh al n X' H' T' σ' ∧ ∀ a q, a ≠ 88 → a ≠ 89 → a ≠ 90 → a ≠ 91 → (a = 87 → q ≠ 8 ∧ q ≠ 9) → σ' a q = σ a q := by
  have h80 := h.nodes
  intro j
  induction j with
  | zero =>
    intro fu k σ X H T g1 g2 hs
    obtain ⟨fu, rfl⟩ : ∃ n2, fu = n2 + 1 := ⟨fu - 1, by omega⟩
    obtain rfl : k = n := by omega
    refine ⟨σ, X, H, T, ?_, hs, fun _ _ _ _ _ _ _ => rfl⟩
    rw [f_Odds_spread_99.eq_2, hs.1.1 16 0 (by decide) (by decide), hn, if_neg (Int.lt_irrefl _)]
  | succ j ih =>
    intro fu k σ X H T g1 g2 hs
    obtain ⟨fu, rfl⟩ : ∃ n2, fu = n2 + 1 := ⟨fu - 1, by omega⟩
    obtain ⟨s1, s2, s3, s4, s5, s6, s7⟩ := hs
    have hk : (k : Int) < σ0 16 0 := by omega
    have hkn : (k : Int) < (n : Int) := by omega
    have hk80 : (k : Int) < 80 := by omega
    have n1 : k < 100000 := by omega
    obtain ⟨σ1, x, a, b, a1, a2, a3, a4, a5, a6, a7, a8, a9, a10⟩ := x_weighO h hb s1 s2 hal2 hk s3
    -- the new functions
    have cgA : nsum (gA σ0 (upN X k x)) k = nsum (gA σ0 X) k := nsum_cg k (fun i hi => by unfold gA; rw [upN_ne (show i ≠ k by omega)])
    have cgT : nsum (gT σ0 (upN X k x)) k = nsum (gT σ0 X) k := nsum_cg k (fun i hi => by unfold gT; rw [upN_ne (show i ≠ k by omega)])
    have cgE : ∀ e, nsum (gE σ0 (upN X k x) e) k = nsum (gE σ0 X e) k := fun e => nsum_cg k (fun i hi => by unfold gE; rw [upN_ne (show i ≠ k by omega)])
    have t1 : SmO σ0 hd tl wh σ1 := by
      obtain ⟨z1, z2, z3, z4⟩ := s1
      exact ⟨fun a q y1 y2 => by rw [a10 a q (fun z => by omega)]; exact z1 a q y1 y2, by rw [a10 87 10 (fun z => by omega)]; exact z2, by rw [a10 87 11 (fun z => by omega)]; exact z3, by rw [a10 87 12 (fun z => by omega)]; exact z4⟩
    obtain ⟨σ2, b1, b2, b3, b4, b5⟩ := x_tallyO (X := upN X k x) h t1.1 hk (by rw [upN_eq]; exact a5) (by rw [cgA, a10 87 8 (fun z => by omega)]; exact s5) (by rw [cgT, a10 87 9 (fun z => by omega)]; exact s6) (fun i hi => by rw [cgE, a10 91 i (fun z => by omega)]; exact s7 i hi)
    have t2 : SmO σ0 hd tl wh σ2 := by
      obtain ⟨z1, z2, z3, z4⟩ := t1
      exact ⟨fun a q y1 y2 => by rw [b5 a q (by omega) (fun z => by omega)]; exact z1 a q y1 y2, by rw [b5 87 10 (by decide) (fun z => by omega)]; exact z2, by rw [b5 87 11 (by decide) (fun z => by omega)]; exact z3, by rw [b5 87 12 (by decide) (fun z => by omega)]; exact z4⟩
    have new : SpX σ0 hd tl wh al (k + 1) (upN X k x) (upN H k a) (upN T k b) σ2 := by
      refine ⟨t2, by rw [b5 87 7 (by decide) (fun z => by omega), a10 87 7 (fun z => by omega)]; exact s2, fun i hi => ?_, fun i hi => ?_, b2, b3, b4⟩
      · by_cases hz : i = k
        · subst hz
          rw [upN_eq, upN_eq, upN_eq, b5 88 i (by decide) (fun z => by omega), b5 89 i (by decide) (fun z => by omega), b5 90 i (by decide) (fun z => by omega)]
          exact ⟨a2, a3, a4, a5, a6, a7⟩
        · rw [upN_ne hz, upN_ne hz, upN_ne hz, b5 88 i (by decide) (fun z => by omega), b5 89 i (by decide) (fun z => by omega), b5 90 i (by decide) (fun z => by omega), a10 88 i (fun _ => hz), a10 89 i (fun _ => hz), a10 90 i (fun _ => hz)]
          exact s3 i (by omega)
      · by_cases hz : i = k
        · subst hz
          refine ⟨fun z => ?_, fun z p s t z1 z2 z3 => ?_⟩
          · rw [upN_eq, upN_eq, upN_eq]
            exact a8 z
          · obtain ⟨p', s', y1, -, -, -, -, y6, -⟩ := h.par z hk
            have hpi : p ≠ i := by omega
            rw [upN_eq, upN_eq, upN_eq, upN_ne hpi, upN_ne hpi, upN_ne hpi]
            exact a9 z p s t z1 z2 z3
        · have r := s4 i (by omega)
          refine ⟨fun z => ?_, fun z p s t z1 z2 z3 => ?_⟩
          · rw [upN_ne hz, upN_ne hz, upN_ne hz]
            exact r.1 z
          · obtain ⟨p', s', y1, -, -, -, -, y6, -⟩ := h.par z (show (i : Int) < σ0 16 0 by omega)
            have hpi : p ≠ k := by omega
            rw [upN_ne hz, upN_ne hz, upN_ne hz, upN_ne hpi, upN_ne hpi, upN_ne hpi]
            exact r.2 z p s t z1 z2 z3
    obtain ⟨σ', X', H', T', d1, d2, d3⟩ := ih fu (k + 1) σ2 _ _ _ (by omega) (by omega) new
    refine ⟨σ', X', H', T', ?_, d2, fun c q h1 h2 h3 h4 h5 => by rw [d3 c q h1 h2 h3 h4 h5, b5 c q h4 h5, a10 c q (fun z => by omega)]⟩
    rw [f_Odds_spread_99.eq_2, s1.1 16 0 (by decide) (by decide), hn, if_pos hkn, if_pos hk80, a1, xbR_s, b1, xbR_s, w32_n1 n1, xlet_s, d1]
theorem x_spr75 : ∀ (j fu i : Nat) (σ : xSt), i + j = 6 → j < fu → (∀ k : Nat, k < i → σ 91 k = 0) → ∃ σ', f_Odds_spread_75 fu (i : Int) σ = f_Odds_spread_99 1000000 0 σ' ∧ (∀ k : Nat, k < 6 → σ' 91 k = 0) ∧ ∀ a q, a ≠ 91 → σ' a q = σ a q := by
  intro j
  induction j with
  | zero =>
    intro fu i σ g1 g2 h0
    obtain ⟨fu, rfl⟩ : ∃ n2, fu = n2 + 1 := ⟨fu - 1, by omega⟩
    obtain rfl : i = 6 := by omega
    refine ⟨σ, ?_, h0, fun _ _ _ => rfl⟩
    rw [f_Odds_spread_75.eq_2, if_neg (by decide)]
  | succ j ih =>
    intro fu i σ g1 g2 h0
    obtain ⟨fu, rfl⟩ : ∃ n2, fu = n2 + 1 := ⟨fu - 1, by omega⟩
    have b2 : 0 ≤ (i : Int) ∧ (i : Int) < 6 := by omega
    have b3 : i < 100000 := by omega
    obtain ⟨σ', t1, t2, t3⟩ := ih fu (i + 1) (upS σ 91 i 0) (by omega) (by omega) (fun k hk => by
      by_cases hz : k = i
      · rw [hz, upS_eq]
      · rw [upS_nk hz]
        exact h0 k (by omega))
    refine ⟨σ', ?_, t2, fun a q ha => by rw [t3 a q ha, upS_ne ha]⟩
    rw [f_Odds_spread_75.eq_2, if_pos b2.2, if_pos b2, Int.toNat_natCast, xlet_s, w32_n1 b3, xlet_s, t1]
theorem x_spr25 {σ0 : xSt} (h : Inv0 σ0) {hd tl wh Tn : Nat} (hb : Bnd hd tl wh) (hT : σ0 7 1 = (Tn : Int)) : ∀ (j fu t : Nat) (σ : xSt), t + j = Tn → j < fu → SmO σ0 hd tl wh σ → σ 87 7 = (AL σ0 wh t : Int) → ∃ σ', f_Odds_spread_25 fu (t : Int) σ = f_Odds_spread_75 1000000 0 σ' ∧ SmO σ0 hd tl wh σ' ∧ σ' 87 7 = (AL σ0 wh Tn : Int) ∧ σ' 87 8 = 0 ∧ σ' 87 9 = 0 ∧ ∀ a q, a ≠ 87 → σ' a q = σ a q := by
  intro j
  induction j with
  | zero =>
    intro fu t σ g1 g2 hs h87
    obtain ⟨fu, rfl⟩ : ∃ n2, fu = n2 + 1 := ⟨fu - 1, by omega⟩
    obtain rfl : t = Tn := by omega
    obtain ⟨z1, z2, z3, z4⟩ := hs
    refine ⟨upS (upS σ 87 8 0) 87 9 0, ?_, ⟨fun a q y1 y2 => by rw [upS_ne (by omega), upS_ne (by omega)]; exact z1 a q y1 y2, by rw [upS_nk (by decide), upS_nk (by decide)]; exact z2, by rw [upS_nk (by decide), upS_nk (by decide)]; exact z3, by rw [upS_nk (by decide), upS_nk (by decide)]; exact z4⟩, by rw [upS_nk (by decide), upS_nk (by decide)]; exact h87, by rw [upS_nk (by decide), upS_eq], by rw [upS_eq], fun a q ha => by rw [upS_ne ha, upS_ne ha]⟩
    rw [f_Odds_spread_25.eq_2, z1 7 1 (by decide) (by decide), hT, if_neg (Int.lt_irrefl _), xlet_s, xlet_s]
  | succ j ih =>
    intro fu t σ g1 g2 hs h87
    obtain ⟨fu, rfl⟩ : ∃ n2, fu = n2 + 1 := ⟨fu - 1, by omega⟩
    have ht : (t : Int) < σ0 7 1 := by omega
    have hti : (t : Int) < (Tn : Int) := by omega
    have h3 := h.things.2.2
    have n1 : t < 100000 := by omega
    have q := h.th (p := (t : Int)) (by omega) ht
    rw [Int.toNat_natCast] at q
    obtain ⟨w1, w2, -⟩ := wp_f (s := 0) h hb ht (by have := q.2.1; omega)
    have p1 : (wo σ0 wh t) ^ 6 ≤ 9 ^ 6 := Nat.pow_le_pow_left w2 6
    have p3 : (9 : Nat) ^ 6 = 531441 := by decide
    have p4 : (wo σ0 wh t) ^ 6 < 9223372036854775808 := by omega
    have al := (AL_3 (t := t + 1) h hb (by omega)).2
    have es : AL σ0 wh (t + 1) = AL σ0 wh t * (wo σ0 wh t) ^ 6 := rfl
    have p5 : AL σ0 wh t * (wo σ0 wh t) ^ 6 < 9223372036854775808 := by omega
    have hwo := x_woO h hs ht
    have hpw : f_Fraction_power (wo σ0 wh t : Int) 6 σ = some (((wo σ0 wh t) ^ 6 : Nat) : Int) := x_power (n := 6) (by decide) p4
    obtain ⟨z1, z2, z3, z4⟩ := hs
    obtain ⟨σ', t1, t2, t3, t4, t5, t6⟩ := ih fu (t + 1) (upS σ 87 7 ((AL σ0 wh t * (wo σ0 wh t) ^ 6 : Nat) : Int)) (by omega) (by omega) ⟨fun a q y1 y2 => by rw [upS_ne (by omega)]; exact z1 a q y1 y2, by rw [upS_nk (by decide)]; exact z2, by rw [upS_nk (by decide)]; exact z3, by rw [upS_nk (by decide)]; exact z4⟩ (by rw [upS_eq, es])
    refine ⟨σ', ?_, t2, t3, t4, t5, fun a q ha => by rw [t6 a q ha, upS_ne ha]⟩
    rw [f_Odds_spread_25.eq_2, z1 7 1 (by decide) (by decide), hT, if_pos hti, hwo, xbR_s, hpw, xbR_s, h87, w64_mul p5, xlet_s, w32_n1 n1, xlet_s, t1]
theorem x_spread {σ0 : xSt} (h : Inv0 σ0) {hd tl wh Tn n : Nat} (hb : Bnd hd tl wh) (hT : σ0 7 1 = (Tn : Int)) (hn : σ0 16 0 = (n : Int)) : ∃ σ' X H T, f_Odds_spread (hd : Int) (tl : Int) (wh : Int) σ0 = some σ' ∧ SpX σ0 hd tl wh (AL σ0 wh Tn) n X H T σ' ∧ ∀ a q, a ≠ 87 → a ≠ 88 → a ≠ 89 → a ≠ 90 → a ≠ 91 → σ' a q = σ0 a q := by
  have al := (AL_3 (t := Tn) h hb (by omega)).2
  obtain ⟨σ1, a1, a2, a3, a4, a5, a6⟩ := x_spr25 h hb hT Tn 1000000 0 (upS (upS (upS (upS σ0 87 10 (hd : Int)) 87 11 (tl : Int)) 87 12 (wh : Int)) 87 7 1) (by omega) (by have := h.things.2.2; omega) ⟨fun a q y1 y2 => by rw [upS_ne (by omega), upS_ne (by omega), upS_ne (by omega), upS_ne (by omega)], by rw [upS_nk (by decide), upS_nk (by decide), upS_nk (by decide), upS_eq], by rw [upS_nk (by decide), upS_nk (by decide), upS_eq], by rw [upS_nk (by decide), upS_eq]⟩ (by rw [upS_eq]; rfl)
  obtain ⟨σ2, b1, b2, b3⟩ := x_spr75 6 1000000 0 σ1 (by omega) (by omega) (fun k hk => absurd hk (Nat.not_lt_zero _))
  obtain ⟨z1, z2, z3, z4⟩ := a2
  have w0 : w64 ((0 : Nat) : Int) = 0 := rfl
  have h80 := h.nodes
  obtain ⟨σ', X, H, T, d1, d2, d3⟩ := x_spr99 h hb al hn n 1000000 0 σ2 (fun _ => 0) (fun _ => 0) (fun _ => 0) (by omega) (by omega) ⟨⟨fun a q y1 y2 => by rw [b3 a q (by omega)]; exact z1 a q y1 y2, by rw [b3 87 10 (by decide)]; exact z2, by rw [b3 87 11 (by decide)]; exact z3, by rw [b3 87 12 (by decide)]; exact z4⟩, by rw [b3 87 7 (by decide)]; exact a3, fun j hj => absurd hj (Nat.not_lt_zero _), fun j hj => absurd hj (Nat.not_lt_zero _), by rw [b3 87 8 (by decide), a4]; exact w0.symm, by rw [b3 87 9 (by decide), a5]; exact w0.symm, fun i hi => by rw [b2 i hi]; exact w0.symm⟩
  rw [c0n] at a1 b1 d1
  refine ⟨σ', X, H, T, ?_, d2, fun a q h1 h2 h3 h4 h5 => by rw [d3 a q h2 h3 h4 h5 (fun z => absurd z h1), b3 a q h5, a6 a q h1, upS_ne h1, upS_ne h1, upS_ne h1, upS_ne h1]⟩
  unfold f_Odds_spread
  rw [xlet_s, xlet_s, xlet_s, xlet_s, a1, b1, d1]
