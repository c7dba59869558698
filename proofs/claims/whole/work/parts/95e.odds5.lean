/-! weights: what they come to -/
def gL (G : xSt) (X : Nat → Nat) (j : Nat) : Nat := if G 17 j = 2 then 0 else X j
theorem nsum_mono {f g : Nat → Nat} : ∀ n : Nat, (∀ j : Nat, j < n → f j ≤ g j) → nsum f n ≤ nsum g n := by
  intro n
  induction n with
  | zero => exact fun _ => Nat.le_refl _
  | succ n ih =>
    intro h
    exact Nat.add_le_add (ih (fun j hj => h j (by omega))) (h n (by omega))
theorem gI_le {G : xSt} {X : Nat → Nat} (i j : Nat) : gI G X i j ≤ gL G X j := by
  by_cases h2 : G 17 j = 2
  · rw [gI_th h2]
    exact Nat.zero_le _
  · have e : gL G X j = X j := if_neg h2
    rw [e]
    unfold gI gE gA
    split <;> split <;> omega
theorem bnd_tree {G : xSt} (h : Inv0 G) {hd tl wh al n : Nat} {X H T : Nat → Nat} (hb : Bnd hd tl wh) (hn : G 16 0 = (n : Int)) (hHS : HSum G hd tl wh)
    (hR : ∀ j : Nat, j < n → XRec G hd tl wh al X H T j) : ∀ (d k e m : Nat), Sub G 7 16 d k e m → e ≤ n → nsum (gL G X) e ≤ nsum (gL G X) k + X k ∧ nsum (gT G X) e ≤ nsum (gT G X) k + d * X k := by
  have leaf : ∀ d k : Nat, G 17 k ≠ 2 → nsum (gL G X) (k + 1) ≤ nsum (gL G X) k + X k ∧ nsum (gT G X) (k + 1) ≤ nsum (gT G X) k + d * X k := by
    intro d k h2
    have e1 : nsum (gL G X) (k + 1) = nsum (gL G X) k + gL G X k := rfl
    have e2 : nsum (gT G X) (k + 1) = nsum (gT G X) k + gT G X k := rfl
    have e3 : gL G X k = X k := if_neg h2
    have e4 : gT G X k = 0 := if_neg h2
    rw [e1, e2, e3, e4]
    exact ⟨Nat.le_refl _, Nat.le_add_right _ _⟩
  intro d
  induction d with
  | zero =>
    intro k e m hS he
    obtain ⟨h1, -, h2⟩ := hS
    subst h1
    exact leaf 0 k (by rcases h2 with ⟨z, -⟩ | ⟨z, -⟩ <;> (intro q; have z : G 17 k = _ := z; omega))
  | succ d ih =>
    intro k e m hS he
    have hlt := (Sub_lt (d + 1) k e m hS).1
    rcases hS with ⟨h1, -, h2⟩ | ⟨a1, a2, a3, f, hh, f0, fe, fs, fm⟩
    · subst h1
      exact leaf (d + 1) k (by rcases h2 with ⟨z, -⟩ | ⟨z, -⟩ <;> (intro q; have z : G 17 k = _ := z; omega))
    · have hT := h.things
      have a1 : G 17 k = 2 := a1
      have a2 : 0 ≤ G 18 k := a2
      have a3 : G 18 k < G 7 1 := a3
      obtain ⟨t, ht⟩ : ∃ t : Nat, G 18 k = (t : Int) := ⟨(G 18 k).toNat, by omega⟩
      have htl : (t : Int) < G 7 1 := by omega
      have hth := h.th (p := (t : Int)) (by omega) htl
      rw [Int.toNat_natCast] at hth
      obtain ⟨N, hN⟩ : ∃ N : Nat, G 10 t = (N : Int) := ⟨(G 10 t).toNat, by omega⟩
      have N2 : 2 ≤ N ∧ N ≤ 6 := by omega
      have hN2 : G (7 + 3) (G (16 + 2) k).toNat = (N : Int) := by
        show G 10 (G 18 k).toNat = _
        rw [ht, Int.toNat_natCast, hN]
      have fe2 : f N = e := by
        rw [hN2] at fe
        exact fe
      have fs2 : ∀ s : Nat, s < N → Sub G 7 16 d (f s) (f (s + 1)) (hh s) ∧ G 19 (f s) = (k : Int) ∧ G 20 (f s) = (s : Int) := fun s hs => by
        obtain ⟨g1, g2, g3, g4, g5⟩ := fs s (by rw [hN2]; omega)
        exact ⟨g1, g2, g3⟩
      have hsin : ∀ s : Nat, s < N → k < f s ∧ f (s + 1) ≤ e ∧ f s < f (s + 1) := fun s hs => by
        have q := sons_in (f := f) (N := (N : Int)) (k := k) (e := e) (fun s hs => (Sub_lt d _ _ _ (fs2 s (by omega)).1).1) f0 (by rw [Int.toNat_natCast]; exact fe2) (s := s) (by omega)
        exact ⟨q.1, q.2, (Sub_lt d _ _ _ (fs2 s hs).1).1⟩
      obtain ⟨w1, w2, -⟩ := wp_f (s := 0) h hb htl (by omega)
      have Xs : ∀ s : Nat, s < N → X (f s) = X k / wo G wh t * pa G hd tl t s := fun s hs => by
        obtain ⟨g1, g2, g3⟩ := fs2 s hs
        have hi := hsin s hs
        exact ((hR (f s) (by omega)).2 (by omega) k s t g2 g3 ht).1
      have hsm := hHS t htl
      rw [hN, Int.toNat_natCast] at hsm
      obtain ⟨y, hyd⟩ : ∃ y : Nat, y = X k / wo G wh t := ⟨_, rfl⟩
      rw [← hyd] at Xs
      have hy : y * wo G wh t ≤ X k := by rw [hyd]; exact Nat.div_mul_le_self _ _
      clear hyd
      have loop : ∀ s : Nat, s ≤ N → nsum (gL G X) (f s) ≤ nsum (gL G X) (k + 1) + y * nsum (pa G hd tl t) s ∧ nsum (gT G X) (f s) ≤ nsum (gT G X) (k + 1) + d * (y * nsum (pa G hd tl t) s) := by
        intro s
        induction s with
        | zero =>
          intro _
          rw [f0]
          exact ⟨Nat.le_add_right _ _, Nat.le_add_right _ _⟩
        | succ s ihs =>
          intro hs
          obtain ⟨i1, i2⟩ := ihs (by omega)
          obtain ⟨-, hi, -⟩ := hsin s (by omega)
          obtain ⟨j1, j2⟩ := ih _ _ _ (fs2 s (by omega)).1 (by omega)
          rw [Xs s (by omega)] at j1 j2
          have e1 : nsum (pa G hd tl t) (s + 1) = nsum (pa G hd tl t) s + pa G hd tl t s := rfl
          rw [e1, Nat.mul_add, Nat.mul_add, ← Nat.add_assoc, ← Nat.add_assoc]
          exact ⟨Nat.le_trans j1 (Nat.add_le_add_right i1 _), Nat.le_trans j2 (Nat.add_le_add_right i2 _)⟩
      obtain ⟨l1, l2⟩ := loop N (Nat.le_refl _)
      rw [hsm, fe2] at l1 l2
      have e1 : nsum (gL G X) (k + 1) = nsum (gL G X) k + gL G X k := rfl
      have e2 : nsum (gT G X) (k + 1) = nsum (gT G X) k + gT G X k := rfl
      have e3 : gL G X k = 0 := if_pos a1
      have e4 : gT G X k = X k := if_pos a1
      rw [e1, e3, Nat.add_zero] at l1
      rw [e2, e4] at l2
      have e5 : (d + 1) * X k = d * X k + X k := Nat.succ_mul _ _
      have e6 : d * (y * wo G wh t) ≤ d * X k := Nat.mul_le_mul_left _ hy
      exact ⟨by omega, by omega⟩
/-- the part of all that the model keeps, and what it drops -/
def PM (G : xSt) (wh : Nat) (hs : Nat → Bool) : Nat → Nat
  | 0 => 1
  | t + 1 => PM G wh hs t * (if hs t = true then wo G wh t else 1)
def CM (G : xSt) (wh : Nat) (hs : Nat → Bool) : Nat → Nat
  | 0 => 1
  | t + 1 => CM G wh hs t * (if hs t = true then 1 else wo G wh t ^ 6)
theorem AL_pc {G : xSt} {wh : Nat} {hs : Nat → Bool} : ∀ t : Nat, AL G wh t = CM G wh hs t * PM G wh hs t ^ 6 := by
  intro t
  induction t with
  | zero => rfl
  | succ t ih =>
    have e1 : AL G wh (t + 1) = AL G wh t * wo G wh t ^ 6 := rfl
    have e2 : CM G wh hs (t + 1) = CM G wh hs t * (if hs t = true then 1 else wo G wh t ^ 6) := rfl
    have e3 : PM G wh hs (t + 1) = PM G wh hs t * (if hs t = true then wo G wh t else 1) := rfl
    rw [e1, e2, e3, ih]
    by_cases hz : hs t = true
    · rw [if_pos hz, if_pos hz, Nat.mul_one, Nat.mul_pow, Nat.mul_assoc]
    · rw [if_neg hz, if_neg hz, Nat.mul_one]
      ac_rfl
theorem PM_dvd {G : xSt} {wh : Nat} {hs : Nat → Bool} {t : Nat} (ht : hs t = true) : ∀ n : Nat, t < n → wo G wh t ∣ PM G wh hs n := by
  intro n
  induction n with
  | zero => exact fun h => absurd h (Nat.not_lt_zero _)
  | succ n ih =>
    intro h
    have e3 : PM G wh hs (n + 1) = PM G wh hs n * (if hs n = true then wo G wh n else 1) := rfl
    rw [e3]
    by_cases hz : t = n
    · rw [← hz, if_pos ht]
      exact Nat.dvd_mul_left _ _
    · exact Nat.dvd_trans (ih (by omega)) (Nat.dvd_mul_right _ _)
theorem PM_pos {G : xSt} (h : Inv0 G) {hd tl wh : Nat} {hs : Nat → Bool} (hb : Bnd hd tl wh) : ∀ t : Nat, (t : Int) ≤ G 7 1 → 1 ≤ PM G wh hs t ∧ 1 ≤ CM G wh hs t := by
  intro t
  induction t with
  | zero => exact fun _ => ⟨Nat.le_refl _, Nat.le_refl _⟩
  | succ t ih =>
    intro ht
    obtain ⟨i1, i2⟩ := ih (by omega)
    have q := h.th (p := (t : Int)) (by omega) (by omega)
    rw [Int.toNat_natCast] at q
    obtain ⟨w1, w2, -⟩ := wp_f (s := 0) h hb (show (t : Int) < G 7 1 by omega) (by have := q.2.1; omega)
    have e2 : CM G wh hs (t + 1) = CM G wh hs t * (if hs t = true then 1 else wo G wh t ^ 6) := rfl
    have e3 : PM G wh hs (t + 1) = PM G wh hs t * (if hs t = true then wo G wh t else 1) := rfl
    have p2 : 1 ≤ (wo G wh t) ^ 6 := Nat.pow_pos w1
    rw [e2, e3]
    refine ⟨Nat.mul_pos i1 (by split <;> omega), Nat.mul_pos i2 (by split <;> omega)⟩
theorem PM_le {G : xSt} (h : Inv0 G) {hd tl wh : Nat} {hs : Nat → Bool} (hb : Bnd hd tl wh) {t : Nat} (ht : (t : Int) ≤ G 7 1) : PM G wh hs t ^ 6 ≤ 150094635296999121 := by
  have h1 := (AL_3 h hb ht).2
  rw [AL_pc (hs := hs) t] at h1
  exact Nat.le_trans (Nat.le_mul_of_pos_left _ (PM_pos h hb t ht).2) h1
