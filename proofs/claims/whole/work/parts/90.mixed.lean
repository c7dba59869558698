/-! mixed -/
def wI (v p : Nat → Nat) (N i : Nat) (w : Nat → Nat) : Nat → Nat → Nat
  | 0 => w
  | s + 1 => fun k => if k = (i + s) % N then wI v p N i w s k + v i * p s else wI v p N i w s k
def wO (v p : Nat → Nat) (N : Nat) : Nat → Nat → Nat
  | 0 => fun _ => 0
  | i + 1 => wI v p N i (wO v p N i) N
theorem wI_le {v p : Nat → Nat} {N i W B : Nat} {w : Nat → Nat} (hw : ∀ k, w k ≤ W) (hv : v i ≤ B) (hp : ∀ s, s < N → p s ≤ 9) : ∀ s : Nat, s ≤ N → ∀ k, wI v p N i w s k ≤ W + s * (B * 9) := by
  intro s
  induction s with
  | zero =>
    intro _ k
    rw [Nat.zero_mul, Nat.add_zero]
    exact hw k
  | succ s ih =>
    intro hs k
    have h1 := ih (by omega) k
    have h2 : v i * p s ≤ B * 9 := Nat.mul_le_mul hv (hp s (by omega))
    have h3 : (s + 1) * (B * 9) = s * (B * 9) + B * 9 := by rw [Nat.add_mul, Nat.one_mul]
    show (if k = (i + s) % N then wI v p N i w s k + v i * p s else wI v p N i w s k) ≤ _
    rw [h3]
    split <;> omega
theorem wO_le {v p : Nat → Nat} {N B : Nat} (hv : ∀ i, i < N → v i ≤ B) (hp : ∀ s, s < N → p s ≤ 9) : ∀ i : Nat, i ≤ N → ∀ k, wO v p N i k ≤ i * (N * (B * 9)) := by
  intro i
  induction i with
  | zero => exact fun _ _ => Nat.zero_le _
  | succ i ih =>
    intro hi k
    have h1 := wI_le (v := v) (p := p) (N := N) (i := i) (ih (by omega)) (hv i (by omega)) hp N (Nat.le_refl N) k
    have h3 : (i + 1) * (N * (B * 9)) = i * (N * (B * 9)) + N * (B * 9) := by rw [Nat.add_mul, Nat.one_mul]
    rw [h3]
    exact h1
theorem add_mod_if {i s N : Nat} (hi : i < N) (hs : s < N) : (i + s) % N = if i + s < N then i + s else i + s - N := by
  by_cases h : i + s < N
  · rw [if_pos h, Nat.mod_eq_of_lt h]
  · rw [if_neg h, Nat.mod_eq_sub_mod (by omega), Nat.mod_eq_of_lt (by omega)]
/-- the class's inmost loop -/
theorem x_mi57 {v p : Nat → Nat} {N i t B : Nat} {w : Nat → Nat} {K : Int → Int → Int → xSt → Option xSt} (h6 : N ≤ 6) (hi : i < N) (hB : B ≤ 1000000000) (hw : ∀ k, w k ≤ 1000000000000) (hv : v i ≤ B) (hp : ∀ s, s < N → p s ≤ 9) : ∀ (j fu s : Nat) (σ : xSt), s + j = N → j < fu → (∀ s : Nat, s < N → ∀ a : Int, f_Table_partsOf (t : Int) (s : Int) σ = some (p s : Int) ∧ ∀ q y, f_Table_partsOf (t : Int) (s : Int) (upS σ 93 q y) = some (p s : Int)) → σ 94 i = (v i : Int) → (∀ k : Nat, k < N → σ 93 k = (wI v p N i w s k : Int)) → (∀ s : Nat, s < N → ∀ σ2 : xSt, (∀ a q, 7 ≤ a → a ≤ 15 → σ2 a q = σ a q) → f_Table_partsOf (t : Int) (s : Int) σ2 = some (p s : Int)) →
    ∃ σ', f_Odds_mixIn_57 K fu (t : Int) (N : Int) (i : Int) (s : Int) σ = K (t : Int) (N : Int) ((i + 1 : Nat) : Int) σ' ∧ (∀ k : Nat, k < N → σ' 93 k = (wI v p N i w N k : Int)) ∧ ∀ a q, a ≠ 93 → σ' a q = σ a q := by
  intro j
  induction j with
  | zero =>
    intro fu s σ g1 g2 _ h94 h93 _
    obtain ⟨fu, rfl⟩ : ∃ n2, fu = n2 + 1 := ⟨fu - 1, by omega⟩
    obtain rfl : s = N := by omega
    have b3 : i < 100000 := by omega
    refine ⟨σ, ?_, h93, fun _ _ _ => rfl⟩
    rw [f_Odds_mixIn_57.eq_2, if_neg (by omega), w32_n1 b3, xlet_s]
  | succ j ih =>
    intro fu s σ g1 g2 hpa h94 h93 hpb
    obtain ⟨fu, rfl⟩ : ∃ n2, fu = n2 + 1 := ⟨fu - 1, by omega⟩
    have hs : s < N := by omega
    have hs2 : (s : Int) < (N : Int) := by omega
    have b3 : s < 100000 := by omega
    have bis : i + s < 100000 := by omega
    have bi : 0 ≤ (i : Int) ∧ (i : Int) < 6 := by omega
    have hto := add_mod_if hi hs
    have hmod : (i + s) % N < N := Nat.mod_lt _ (by omega)
    have wb := wI_le (v := v) (p := p) (N := N) (i := i) hw hv hp s (by omega) ((i + s) % N)
    have pb : v i * p s ≤ B * 9 := Nat.mul_le_mul hv (hp s hs)
    have sb : s * (B * 9) ≤ 6 * (B * 9) := Nat.mul_le_mul (by omega) (Nat.le_refl _)
    have c1 : v i * p s < 9223372036854775808 := by omega
    have c2 : wI v p N i w s ((i + s) % N) + v i * p s < 9223372036854775808 := by omega
    have bto : 0 ≤ (((i + s) % N : Nat) : Int) ∧ (((i + s) % N : Nat) : Int) < 6 := by omega
    obtain ⟨σ', t1, t2, t3⟩ := ih fu (s + 1) (upS σ 93 ((i + s) % N) ((wI v p N i w s ((i + s) % N) + v i * p s : Nat) : Int)) (by omega) (by omega) (fun s2 hs2 a => ⟨hpb s2 hs2 _ (fun a q z1 z2 => upS_ne (by omega)), fun q y => hpb s2 hs2 _ (fun a q z1 z2 => by rw [upS_ne (by omega), upS_ne (by omega)])⟩) (by rw [upS_ne (by decide)]; exact h94) (fun k hk => by
      show _ = (((if k = (i + s) % N then wI v p N i w s k + v i * p s else wI v p N i w s k) : Nat) : Int)
      by_cases hz : k = (i + s) % N
      · rw [if_pos hz, hz, upS_eq]
      · rw [if_neg hz, upS_nk hz]
        exact h93 k hk) (fun s2 hs2 σ2 h2 => hpb s2 hs2 σ2 (fun a q z1 z2 => by rw [h2 a q z1 z2, upS_ne (by omega)]))
    refine ⟨σ', ?_, t2, fun a q ha => by rw [t3 a q ha, upS_ne ha]⟩
    have key : f_Odds_mixIn_87 K (fun z0 z1 z2 z3 sz => f_Odds_mixIn_57 K fu z0 z1 z2 z3 sz) (t : Int) (N : Int) (i : Int) (s : Int) (((i + s) % N : Nat) : Int) σ = K (t : Int) (N : Int) ((i + 1 : Nat) : Int) σ' := by
      unfold f_Odds_mixIn_87
      rw [x_isWithin, if_pos bto, xbR_s, if_neg (by decide), if_pos bto, if_pos bi, (hpa s hs 0).1, xbR_s, if_pos bto, Int.toNat_natCast, Int.toNat_natCast, h93 _ hmod, h94, w64_mul c1, w64_add c2, xlet_s, w32_n1 b3, xlet_s]
      exact t1
    rw [f_Odds_mixIn_57.eq_2, if_pos hs2, w32_nn bis]
    by_cases hlt : i + s < N
    · rw [if_pos hlt] at hto
      rw [hto] at key
      rw [if_pos (by omega), key]
    · rw [if_neg hlt] at hto
      have e1 : w32 (((i + s : Nat) : Int) - (N : Int)) = ((i + s - N : Nat) : Int) := (w32_o (by omega) (by omega)).trans (by omega)
      rw [hto] at key
      rw [if_neg (by omega), e1, key]
theorem x_mi41 {v p : Nat → Nat} {N t B : Nat} (h6 : N ≤ 6) (hB : B ≤ 1000000000) (hv : ∀ i, i < N → v i ≤ B) (hp : ∀ s, s < N → p s ≤ 9) : ∀ (j fu i : Nat) (σ : xSt), i + j = N → j < fu → (∀ s : Nat, s < N → ∀ σ2 : xSt, (∀ a q, 7 ≤ a → a ≤ 15 → σ2 a q = σ a q) → f_Table_partsOf (t : Int) (s : Int) σ2 = some (p s : Int)) → (∀ k : Nat, k < N → σ 94 k = (v k : Int)) → (∀ k : Nat, k < N → σ 93 k = (wO v p N i k : Int)) →
    ∃ σ', f_Odds_mixIn_41 fu (t : Int) (N : Int) (i : Int) σ = some σ' ∧ (∀ k : Nat, k < N → σ' 93 k = (wO v p N N k : Int)) ∧ ∀ a q, a ≠ 93 → σ' a q = σ a q := by
  have wb : ∀ i, i ≤ N → ∀ k, wO v p N i k ≤ 1000000000000 := fun i hi k => by
    have h1 := wO_le hv hp i hi k
    have h2 : i * (N * (B * 9)) ≤ 6 * (6 * (1000000000 * 9)) := Nat.mul_le_mul (by omega) (Nat.mul_le_mul h6 (Nat.mul_le_mul hB (Nat.le_refl _)))
    omega
  intro j
  induction j with
  | zero =>
    intro fu i σ g1 g2 _ h94 h93
    obtain ⟨fu, rfl⟩ : ∃ n2, fu = n2 + 1 := ⟨fu - 1, by omega⟩
    obtain rfl : i = N := by omega
    refine ⟨σ, ?_, h93, fun _ _ _ => rfl⟩
    rw [f_Odds_mixIn_41.eq_2, if_neg (by omega)]
  | succ j ih =>
    intro fu i σ g1 g2 hpb h94 h93
    obtain ⟨fu, rfl⟩ : ∃ n2, fu = n2 + 1 := ⟨fu - 1, by omega⟩
    have hi : i < N := by omega
    have hi2 : (i : Int) < (N : Int) := by omega
    have hi6 : (i : Int) < 6 := by omega
    obtain ⟨σ1, d1, d2, d3⟩ := x_mi57 (K := fun z0 z1 z2 sz => f_Odds_mixIn_41 fu z0 z1 z2 sz) (t := t) h6 hi hB (wb i (by omega)) (hv i hi) hp N 1000000 0 σ (by omega) (by omega) (fun s hs a => ⟨hpb s hs σ (fun _ _ _ _ => rfl), fun q y => hpb s hs _ (fun a q z1 z2 => upS_ne (by omega))⟩) (h94 i hi) h93 hpb
    rw [c0n] at d1
    obtain ⟨σ', t1, t2, t3⟩ := ih fu (i + 1) σ1 (by omega) (by omega) (fun s hs σ2 h2 => hpb s hs σ2 (fun a q z1 z2 => by rw [h2 a q z1 z2, d3 a q (by omega)])) (fun k hk => by rw [d3 94 k (by decide)]; exact h94 k hk) d2
    refine ⟨σ', ?_, t2, fun a q ha => by rw [t3 a q ha, d3 a q ha]⟩
    rw [f_Odds_mixIn_41.eq_2, if_pos hi2, if_pos hi6, d1, t1]
theorem x_mi3 {t N : Int} : ∀ (j fu i : Nat) (σ : xSt), i + j = 6 → j < fu → ∃ σ', f_Odds_mixIn_3 fu t N (i : Int) σ = f_Odds_mixIn_41 1000000 t N 0 σ' ∧ (∀ k : Nat, i ≤ k → k < 6 → σ' 93 k = 0 ∧ σ' 94 k = σ 93 k) ∧ (∀ k : Nat, k < i → σ' 93 k = σ 93 k ∧ σ' 94 k = σ 94 k) ∧ ∀ a q, a ≠ 93 → a ≠ 94 → σ' a q = σ a q := by
  intro j
  induction j with
  | zero =>
    intro fu i σ g1 g2
    obtain ⟨fu, rfl⟩ : ∃ n2, fu = n2 + 1 := ⟨fu - 1, by omega⟩
    refine ⟨σ, ?_, fun k a b => by omega, fun _ _ => ⟨rfl, rfl⟩, fun _ _ _ _ => rfl⟩
    rw [f_Odds_mixIn_3.eq_2, if_neg (by omega)]
  | succ j ih =>
    intro fu i σ g1 g2
    obtain ⟨fu, rfl⟩ : ∃ n2, fu = n2 + 1 := ⟨fu - 1, by omega⟩
    have b1 : (i : Int) < 6 := by omega
    have b2 : 0 ≤ (i : Int) ∧ (i : Int) < 6 := by omega
    have b3 : i < 100000 := by omega
    obtain ⟨σ', t1, t2, t3, t4⟩ := ih fu (i + 1) (upS (upS σ 94 i (σ 93 i)) 93 i 0) (by omega) (by omega)
    refine ⟨σ', ?_, fun k hk hk2 => ?_, fun k hk => ?_, fun a q ha hb => by rw [t4 a q ha hb, upS_ne ha, upS_ne hb]⟩
    · rw [f_Odds_mixIn_3.eq_2, if_pos b1, if_pos b2, if_pos b2, Int.toNat_natCast, xlet_s, if_pos b2, xlet_s, w32_n1 b3, xlet_s, t1]
    · by_cases hz : k = i
      · subst hz
        rw [(t3 k (by omega)).1, (t3 k (by omega)).2, upS_eq, upS_ne (by decide), upS_eq]
        exact ⟨rfl, rfl⟩
      · rw [(t2 k (by omega) hk2).1, (t2 k (by omega) hk2).2, upS_nk hz, upS_ne (by decide)]
        exact ⟨rfl, rfl⟩
    · rw [(t3 k (by omega)).1, (t3 k (by omega)).2, upS_nk (by omega), upS_ne (by decide), upS_ne (by decide), upS_nk (by omega)]
      exact ⟨rfl, rfl⟩
theorem x_mixIn {v p : Nat → Nat} {N t B : Nat} (h6 : N ≤ 6) (hB : B ≤ 1000000000) (hv : ∀ i, i < N → v i ≤ B) (hp : ∀ s, s < N → p s ≤ 9) (σ : xSt) (hpb : ∀ s : Nat, s < N → ∀ σ2 : xSt, (∀ a q, 7 ≤ a → a ≤ 15 → σ2 a q = σ a q) → f_Table_partsOf (t : Int) (s : Int) σ2 = some (p s : Int)) (h93 : ∀ k : Nat, k < N → σ 93 k = (v k : Int)) :
    ∃ σ', f_Odds_mixIn (t : Int) (N : Int) σ = some σ' ∧ (∀ k : Nat, k < N → σ' 93 k = (wO v p N N k : Int)) ∧ ∀ a q, a ≠ 93 → a ≠ 94 → σ' a q = σ a q := by
  obtain ⟨σ1, a1, a2, a3, a4⟩ := x_mi3 (t := (t : Int)) (N := (N : Int)) 6 1000000 0 σ (by omega) (by omega)
  rw [c0n] at a1
  obtain ⟨σ', t1, t2, t3⟩ := x_mi41 (t := t) h6 hB hv hp N 1000000 0 σ1 (by omega) (by omega) (fun s hs σ2 h2 => hpb s hs σ2 (fun a q z1 z2 => by rw [h2 a q z1 z2, a4 a q (by omega) (by omega)])) (fun k hk => by rw [(a2 k (by omega) (by omega)).2]; exact h93 k hk) (fun k hk => by rw [(a2 k (by omega) (by omega)).1]; rfl)
  rw [c0n] at t1
  refine ⟨σ', ?_, t2, fun a q ha hb => by rw [t3 a q ha, a4 a q ha hb]⟩
  unfold f_Odds_mixIn
  rw [a1, t1]
/-- is THING t of the set -/
def inT (set : Int) (t : Nat) : Prop := xand (xshr set (t : Int)) 1 = 1
def vT (set : Int) (P : Nat → Nat → Nat) (N : Nat) : Nat → Nat → Nat
  | 0 => fun k => if k = 0 then 1 else 0
  | t + 1 => if xand (xshr set (t : Int)) 1 = 1 then wO (vT set P N t) (P t) N N else vT set P N t
def aT (set : Int) (A : Nat → Nat) : Nat → Nat
  | 0 => 1
  | t + 1 => if xand (xshr set (t : Int)) 1 = 1 then aT set A t * A t else aT set A t
theorem vT_le {set : Int} {P : Nat → Nat → Nat} {N : Nat} (h6 : N ≤ 6) (hp : ∀ t s, s < N → P t s ≤ 9) : ∀ t : Nat, ∀ k, vT set P N t k ≤ 324 ^ t := by
  intro t
  induction t with
  | zero =>
    intro k
    show (if k = 0 then 1 else 0) ≤ 1
    split <;> omega
  | succ t ih =>
    intro k
    have h0 : 324 ^ t ≤ 324 ^ (t + 1) := Nat.pow_le_pow_right (by decide) (Nat.le_succ t)
    show (if xand (xshr set (t : Int)) 1 = 1 then wO (vT set P N t) (P t) N N else vT set P N t) k ≤ _
    by_cases hb : xand (xshr set (t : Int)) 1 = 1
    · rw [if_pos hb]
      have h1 := wO_le (v := vT set P N t) (p := P t) (N := N) (B := 324 ^ t) (fun i _ => ih i) (hp t) N (Nat.le_refl N) k
      have h2 : N * (N * (324 ^ t * 9)) ≤ 6 * (6 * (324 ^ t * 9)) := Nat.mul_le_mul h6 (Nat.mul_le_mul h6 (Nat.le_refl _))
      have h3 : 324 ^ (t + 1) = 324 ^ t * 324 := Nat.pow_succ _ _
      omega
    · rw [if_neg hb]
      exact Nat.le_trans (ih k) h0
theorem aT_le {set : Int} {A : Nat → Nat} {T : Nat} (hA : ∀ t, t < T → xand (xshr set (t : Int)) 1 = 1 → 1 ≤ A t ∧ A t ≤ 9) : ∀ t : Nat, t ≤ T → 1 ≤ aT set A t ∧ aT set A t ≤ 9 ^ t := by
  intro t
  induction t with
  | zero => exact fun _ => ⟨Nat.le_refl _, Nat.le_refl _⟩
  | succ t ih =>
    intro ht
    obtain ⟨h1, h2⟩ := ih (by omega)
    have h0 : 9 ^ (t + 1) = 9 ^ t * 9 := Nat.pow_succ _ _
    show 1 ≤ (if xand (xshr set (t : Int)) 1 = 1 then aT set A t * A t else aT set A t) ∧ (if xand (xshr set (t : Int)) 1 = 1 then aT set A t * A t else aT set A t) ≤ _
    by_cases hb : xand (xshr set (t : Int)) 1 = 1
    · obtain ⟨a1, a2⟩ := hA t (by omega) hb
      rw [if_pos hb, h0]
      exact ⟨Nat.mul_pos h1 a1, Nat.mul_le_mul h2 a2⟩
    · rw [if_neg hb]
      omega
theorem x_mix41 {σ0 : xSt} {set : Int} {P : Nat → Nat → Nat} {A : Nat → Nat} {N T : Nat} (h6 : N ≤ 6) (hT : T ≤ 3) (hp : ∀ t s, s < N → P t s ≤ 9) (hA : ∀ t, t < T → xand (xshr set (t : Int)) 1 = 1 → 1 ≤ A t ∧ A t ≤ 9) (h7 : σ0 7 1 = (T : Int))
    (hP : ∀ t : Nat, t < T → xand (xshr set (t : Int)) 1 = 1 → ∀ s : Nat, s < N → ∀ σ2 : xSt, (∀ a q, 7 ≤ a → a ≤ 15 → σ2 a q = σ0 a q) → f_Table_partsOf (t : Int) (s : Int) σ2 = some (P t s : Int)) (hAll : ∀ t : Nat, t < T → xand (xshr set (t : Int)) 1 = 1 → ∀ σ2 : xSt, (∀ a q, 7 ≤ a → a ≤ 15 → σ2 a q = σ0 a q) → f_Table_allParts (t : Int) σ2 = some (A t : Int)) :
    ∀ (j fu t : Nat) (σ : xSt), t + j = T → j < fu → (∀ a q, 7 ≤ a → a ≤ 15 → σ a q = σ0 a q) → σ 87 7 = (aT set A t : Int) → (∀ k : Nat, k < N → σ 93 k = (vT set P N t k : Int)) → ∃ σ', f_Odds_mix_41 fu set (N : Int) (t : Int) σ = some σ' ∧ σ' 87 7 = (aT set A T : Int) ∧ (∀ k : Nat, k < N → σ' 93 k = (vT set P N T k : Int)) ∧ ∀ a q, (a = 87 → q ≠ 7) → a ≠ 93 → a ≠ 94 → σ' a q = σ a q := by
  intro j
  induction j with
  | zero =>
    intro fu t σ g1 g2 hs h87 h93
    obtain ⟨fu, rfl⟩ : ∃ n2, fu = n2 + 1 := ⟨fu - 1, by omega⟩
    obtain rfl : t = T := by omega
    refine ⟨σ, ?_, h87, h93, fun _ _ _ _ _ => rfl⟩
    rw [f_Odds_mix_41.eq_2, hs 7 1 (by decide) (by decide), h7, if_neg (by omega)]
  | succ j ih =>
    intro fu t σ g1 g2 hs h87 h93
    obtain ⟨fu, rfl⟩ : ∃ n2, fu = n2 + 1 := ⟨fu - 1, by omega⟩
    have ht : t < T := by omega
    have ht2 : (t : Int) < (T : Int) := by omega
    have b3 : t < 100000 := by omega
    by_cases hb : xand (xshr set (t : Int)) 1 = 1
    · obtain ⟨a1, a2⟩ := aT_le hA t (by omega)
      obtain ⟨a3, a4⟩ := hA t ht hb
      have hpow : 9 ^ t ≤ 9 ^ 3 := Nat.pow_le_pow_right (by decide) (by omega)
      have hp3 : (9 : Nat) ^ 3 = 729 := by decide
      have hm : aT set A t * A t ≤ 729 * 9 := Nat.mul_le_mul (by omega) a4
      have hm2 : aT set A t * A t < 9223372036854775808 := by omega
      have vb : ∀ i, i < N → vT set P N t i ≤ 324 ^ t := fun i _ => vT_le h6 hp t i
      have hvp : 324 ^ t ≤ 324 ^ 3 := Nat.pow_le_pow_right (by decide) (by omega)
      have hv3 : (324 : Nat) ^ 3 = 34012224 := by decide
      obtain ⟨σ1, d1, d2, d3⟩ := x_mixIn (v := vT set P N t) (p := P t) (N := N) (t := t) (B := 324 ^ t) h6 (by omega) vb (hp t) (upS σ 87 7 ((aT set A t * A t : Nat) : Int)) (fun s hs2 σ2 h2 => hP t ht hb s hs2 σ2 (fun a q z1 z2 => by rw [h2 a q z1 z2, upS_ne (by omega)]; exact hs a q z1 z2)) (fun k hk => by rw [upS_ne (by decide)]; exact h93 k hk)
      obtain ⟨σ', t1, t2, t3, t4⟩ := ih fu (t + 1) σ1 (by omega) (by omega) (fun a q z1 z2 => by rw [d3 a q (by omega) (by omega), upS_ne (by omega)]; exact hs a q z1 z2) (by
        rw [d3 87 7 (by decide) (by decide), upS_eq]
        show _ = (((if xand (xshr set (t : Int)) 1 = 1 then aT set A t * A t else aT set A t) : Nat) : Int)
        rw [if_pos hb]) (fun k hk => by
        rw [d2 k hk]
        show _ = ((((if xand (xshr set (t : Int)) 1 = 1 then wO (vT set P N t) (P t) N N else vT set P N t) k) : Nat) : Int)
        rw [if_pos hb])
      refine ⟨σ', ?_, t2, t3, fun a q h1 h2 h3 => by rw [t4 a q h1 h2 h3, d3 a q h2 h3, upS_rd, if_neg (fun z => h1 z.1 z.2)]⟩
      rw [f_Odds_mix_41.eq_2, hs 7 1 (by decide) (by decide), h7, if_pos ht2, if_pos hb, hAll t ht hb σ hs, xbR_s, h87, w64_mul hm2, xlet_s, d1, xbR_s, w32_n1 b3, xlet_s, t1]
    · obtain ⟨σ', t1, t2, t3, t4⟩ := ih fu (t + 1) σ (by omega) (by omega) hs (by
        rw [h87]
        show _ = (((if xand (xshr set (t : Int)) 1 = 1 then aT set A t * A t else aT set A t) : Nat) : Int)
        rw [if_neg hb]) (fun k hk => by
        rw [h93 k hk]
        show _ = ((((if xand (xshr set (t : Int)) 1 = 1 then wO (vT set P N t) (P t) N N else vT set P N t) k) : Nat) : Int)
        rw [if_neg hb])
      refine ⟨σ', ?_, t2, t3, t4⟩
      rw [f_Odds_mix_41.eq_2, hs 7 1 (by decide) (by decide), h7, if_pos ht2, if_neg hb, w32_n1 b3, xlet_s, t1]
theorem x_mix8 {set N : Int} : ∀ (j fu i : Nat) (σ : xSt), i + j = 6 → j < fu → ∃ σ', f_Odds_mix_8 fu set N (i : Int) σ = f_Odds_mix_41 1000000 set N 0 σ' ∧ (∀ k : Nat, i ≤ k → k < 6 → σ' 93 k = (((if k = 0 then 1 else 0) : Nat) : Int)) ∧ (∀ k : Nat, k < i → σ' 93 k = σ 93 k) ∧ ∀ a q, a ≠ 93 → σ' a q = σ a q := by
  intro j
  induction j with
  | zero =>
    intro fu i σ g1 g2
    obtain ⟨fu, rfl⟩ : ∃ n2, fu = n2 + 1 := ⟨fu - 1, by omega⟩
    refine ⟨σ, ?_, fun k a b => by omega, fun _ _ => rfl, fun _ _ _ => rfl⟩
    rw [f_Odds_mix_8.eq_2, if_neg (by omega)]
  | succ j ih =>
    intro fu i σ g1 g2
    obtain ⟨fu, rfl⟩ : ∃ n2, fu = n2 + 1 := ⟨fu - 1, by omega⟩
    have b1 : (i : Int) < 6 := by omega
    have b2 : 0 ≤ (i : Int) ∧ (i : Int) < 6 := by omega
    have b3 : i < 100000 := by omega
    obtain ⟨σ', t1, t2, t3, t4⟩ := ih fu (i + 1) (upS σ 93 i (((if i = 0 then 1 else 0) : Nat) : Int)) (by omega) (by omega)
    refine ⟨σ', ?_, fun k hk hk2 => ?_, fun k hk => ?_, fun a q ha => by rw [t4 a q ha, upS_ne ha]⟩
    · rw [f_Odds_mix_8.eq_2, if_pos b1]
      unfold f_Odds_mix_31
      by_cases hz : i = 0
      · rw [if_pos (by omega), if_pos b2, Int.toNat_natCast, xlet_s, w32_n1 b3, xlet_s]
        rw [if_pos hz] at t1
        exact t1
      · rw [if_neg (by omega), if_pos b2, Int.toNat_natCast, xlet_s, w32_n1 b3, xlet_s]
        rw [if_neg hz] at t1
        exact t1
    · by_cases hz : k = i
      · rw [t3 k (by omega), hz, upS_eq]
      · exact t2 k (by omega) hk2
    · rw [t3 k (by omega), upS_nk (by omega)]
