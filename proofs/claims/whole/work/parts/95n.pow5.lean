/-! powers: bounds, both sides -/
theorem ch_sum : ∀ t, t < 7 → nsum (chN t) (t + 1) ≤ 64 := by decide +kernel
theorem ch_sum0 : nsum (chN 0) 1 ≤ 1 := by decide +kernel
theorem sgc_b {m x c : Nat} : -((x * c : Nat) : Int) ≤ sg m x * (c : Int) ∧ sg m x * (c : Int) ≤ ((x * c : Nat) : Int) := by
  unfold sg
  split
  · rw [← Int.natCast_mul]
    omega
  · rw [Int.neg_mul, ← Int.natCast_mul]
    omega
theorem pwS_b {e h t x i : Nat} : ∀ m : Nat, -((x * nsum (chN t) m : Nat) : Int) ≤ pwS e h t x m i ∧ pwS e h t x m i ≤ ((x * nsum (chN t) m : Nat) : Int) := by
  intro m
  induction m with
  | zero => exact ⟨by show _ ≤ (0 : Int); omega, by show (0 : Int) ≤ _; omega⟩
  | succ m ih =>
    obtain ⟨i1, i2⟩ := ih
    have e1 : pwS e h t x (m + 1) i = pwS e h t x m i + (if i = 7 * e + h + m then sg m x * (chN t m : Int) else 0) := rfl
    have e2 : nsum (chN t) (m + 1) = nsum (chN t) m + chN t m := rfl
    obtain ⟨b1, b2⟩ := sgc_b (m := m) (x := x) (c := chN t m)
    rw [e1, e2, Nat.mul_add]
    generalize sg m x * (chN t m : Int) = S at b1 b2
    generalize x * chN t m = A at b1 b2
    generalize x * nsum (chN t) m = B at i1 i2
    split <;> omega
theorem psum_b2 {f : Nat → Int} {g : Nat → Nat} : ∀ n : Nat, (∀ j : Nat, j < n → -(g j : Int) ≤ f j ∧ f j ≤ (g j : Int)) → -(nsum g n : Int) ≤ psum f n ∧ psum f n ≤ (nsum g n : Int) := by
  intro n
  induction n with
  | zero => exact fun _ => ⟨Int.le_refl _, Int.le_refl _⟩
  | succ n ih =>
    intro h
    have := ih (fun j hj => h j (by omega))
    have h2 := h n (by omega)
    have e1 : psum f (n + 1) = psum f n + f n := rfl
    have e2 : nsum g (n + 1) = nsum g n + g n := rfl
    omega
theorem AL_op {σ : xSt} (h : Inv0 σ) {o : Nat} (ho : (o : Int) = σ 7 3) : ∀ t : Nat, (t : Int) ≤ σ 7 1 → (t ≤ o → AL σ 1 t ≤ 531441 ^ t) ∧ (o < t → AL σ 1 t ≤ 531441 ^ (t - 1)) := by
  have hb : Bnd 1 1 1 := ⟨by decide, by decide, by decide, by decide⟩
  intro t
  induction t with
  | zero => exact fun _ => ⟨fun _ => Nat.le_refl _, fun z => absurd z (Nat.not_lt_zero _)⟩
  | succ t ih =>
    intro ht
    obtain ⟨i1, i2⟩ := ih (by omega)
    refine ⟨fun _ => (AL_f h hb (t + 1) ht).2, fun z => ?_⟩
    have es : AL σ 1 (t + 1) = AL σ 1 t * (wo σ 1 t) ^ 6 := rfl
    rw [es, Nat.add_sub_cancel]
    by_cases hz : t = o
    · have wo1 : wo σ 1 t = 1 := if_pos (by omega)
      rw [wo1, Nat.one_pow, Nat.mul_one]
      exact i1 (by omega)
    · have q := h.th (p := (t : Int)) (by omega) (by omega)
      rw [Int.toNat_natCast] at q
      obtain ⟨w1, w2, -⟩ := wp_f (s := 0) h hb (show (t : Int) < σ 7 1 by omega) (by have := q.2.1; omega)
      have p1 : (wo σ 1 t) ^ 6 ≤ 9 ^ 6 := Nat.pow_le_pow_left w2 6
      have p3 : (9 : Nat) ^ 6 = 531441 := by decide
      have i3 := i2 (by omega)
      have e5 : 531441 ^ t = 531441 ^ (t - 1) * 531441 := by
        rw [← Nat.pow_succ]
        congr 1
        omega
      rw [e5]
      exact Nat.mul_le_mul i3 (by omega)
theorem pw_b {σ : xSt} (h : Inv0 σ) {Tn n : Nat} (hT : σ 7 1 = (Tn : Int)) (hn : σ 16 0 = (n : Int)) (hn0 : 0 < n) {X H T : Nat → Nat} (hX : ∀ j : Nat, j < n → X j ≤ AL σ 1 Tn) (hR : ∀ j : Nat, j < n → XRec σ 1 1 1 (AL σ 1 Tn) X H T j) :
    (∀ j : Nat, j < n → H j + T j ≤ 6) ∧ ∀ i : Nat, -150094635296999121 ≤ psum (cP σ X H T i) n ∧ psum (cP σ X H T i) n ≤ 150094635296999121 := by
  have hb : Bnd 1 1 1 := ⟨by decide, by decide, by decide, by decide⟩
  have al := (AL_3 (t := Tn) h hb (by omega)).2
  have h80 := h.nodes
  have hsub := (h.tree (by omega)).1
  rw [show (σ 16 0).toNat = n by omega] at hsub
  obtain ⟨x0, h0, t0⟩ := (hR 0 hn0).1 rfl
  have h6 : ∀ j : Nat, j < n → H j + T j ≤ 6 := fun j hj => by
    have := ht_tree h hn hR 6 0 n _ hsub (Nat.le_refl n) j (Nat.zero_le j) hj
    omega
  refine ⟨h6, fun i => ?_⟩
  by_cases ho : ∀ t : Nat, (t : Int) < σ 7 1 → (t : Int) ≠ σ 7 3
  · have hno := ht_no h hn hR ho
    have hHS : HSum σ 1 1 1 := hsum_ok h (Or.inr ho)
    obtain ⟨b1, -⟩ := bnd_tree h hb hn hHS hR 6 0 n _ hsub (Nat.le_refl n)
    have z1 : nsum (gL σ X) 0 = 0 := rfl
    rw [z1, Nat.zero_add, x0] at b1
    have := psum_b2 (f := cP σ X H T i) (g := gL σ X) n (fun j hj => by
      unfold cP gL
      by_cases h2 : σ 17 j = 2
      · rw [if_pos h2, if_pos h2]
        exact ⟨Int.le_refl _, Int.le_refl _⟩
      · rw [if_neg h2, if_neg h2]
        have q := pwS_b (e := eo σ j) (h := H j) (t := T j) (x := X j) (i := i) (T j + 1)
        rw [(hno j j (Nat.le_refl j) hj).2] at q ⊢
        have q2 : X j * nsum (chN 0) (0 + 1) ≤ X j * 1 := Nat.mul_le_mul_left _ ch_sum0
        generalize X j * nsum (chN 0) (0 + 1) = Z at q q2
        omega)
    omega
  · obtain ⟨o, ho1, ho2⟩ : ∃ o : Nat, (o : Int) < σ 7 1 ∧ (o : Int) = σ 7 3 := by
      by_cases z : 0 ≤ σ 7 3 ∧ σ 7 3 < σ 7 1
      · exact ⟨(σ 7 3).toNat, by omega, by omega⟩
      · exact absurd (fun t ht => by omega) ho
    have h3 := h.things.2.2
    have a1 := (AL_op h ho2 Tn (by omega)).2 (by omega)
    have a2 : 531441 ^ (Tn - 1) ≤ 531441 ^ 2 := Nat.pow_le_pow_right (by decide) (by omega)
    have a3 : (531441 : Nat) ^ 2 = 282429536481 := by decide
    have a4 : AL σ 1 Tn ≤ 282429536481 := by omega
    have := psum_b2 (f := cP σ X H T i) (g := fun _ => 282429536481 * 64) n (fun j hj => by
      show -((282429536481 * 64 : Nat) : Int) ≤ _ ∧ _ ≤ ((282429536481 * 64 : Nat) : Int)
      unfold cP
      by_cases h2 : σ 17 j = 2
      · rw [if_pos h2]
        exact ⟨by omega, by omega⟩
      · rw [if_neg h2]
        have q := pwS_b (e := eo σ j) (h := H j) (t := T j) (x := X j) (i := i) (T j + 1)
        have t7 := h6 j hj
        have q2 : X j * nsum (chN (T j)) (T j + 1) ≤ 282429536481 * 64 := Nat.mul_le_mul (Nat.le_trans (hX j hj) a4) (ch_sum (T j) (by omega))
        generalize X j * nsum (chN (T j)) (T j + 1) = Z at q q2
        omega)
    have q3 := nsum_le (f := fun _ => 282429536481 * 64) (c := 282429536481 * 64) n (fun _ _ => Nat.le_refl _)
    have q4 : n * (282429536481 * 64) ≤ 80 * (282429536481 * 64) := Nat.mul_le_mul_right _ (by omega)
    generalize nsum (fun _ => 282429536481 * 64) n = Y at this q3
    omega
theorem cP_cg {σ L : xSt} (e : ∀ a k, a ≤ 86 → L a k = σ a k) {X H T : Nat → Nat} (i : Nat) : cP L X H T i = cP σ X H T i := by
  funext j
  unfold cP eo
  rw [e 17 _ (by decide), e 18 _ (by decide)]
def PLk (σ : xSt) (al : Nat) (nP : Nat → Int) : Prop := ∀ L, Inv0 L → L 111 22 ≠ 0 → (∀ a k, a ≤ 86 → L a k = σ a k) → ∃ (M : xSt) (C B : Nat) (E : Nat → Int), f_M_layPowers L = some M ∧ M 111 32 = (B : Int) ∧ (∀ i : Nat, i < 49 → M 123 i = E i) ∧ 1 ≤ C ∧ al = C * B ∧ ∀ i : Nat, i < 49 → nP i = (C : Int) * E i
theorem p_lock {σ : xSt} (h : Inv0 σ) {Tn n : Nat} (hT : σ 7 1 = (Tn : Int)) (hn : σ 16 0 = (n : Int)) (hn0 : 0 < n) {X H T : Nat → Nat} (hX : ∀ j : Nat, j < n → X j ≤ AL σ 1 Tn) (hR : ∀ j : Nat, j < n → XRec σ 1 1 1 (AL σ 1 Tn) X H T j)
    (bP : ∀ i : Nat, -150094635296999121 ≤ psum (cP σ X H T i) n ∧ psum (cP σ X H T i) n ≤ 150094635296999121) :
    PLk σ (AL σ 1 Tn) (fun i => psum (cP σ X H T i) n) := by
  intro L hL h22 e
  have hb : Bnd 1 1 1 := ⟨by decide, by decide, by decide, by decide⟩
  obtain ⟨hs, hhs⟩ : ∃ hs : Nat → Bool, ∀ t : Nat, hs t = true ↔ Has L 0 (L 16 0).toNat (t : Int) := ⟨fun t => @decide _ (Classical.propDecidable (Has L 0 (L 16 0).toNat (t : Int))), fun t => @decide_eq_true_iff _ (Classical.propDecidable _)⟩
  have hT2 : L 7 1 = (Tn : Int) := by rw [e 7 1 (by decide), hT]
  have hn2 : L 16 0 = (n : Int) := by rw [e 16 0 (by decide), hn]
  have eAL := AL_cg e (wh := 1) Tn
  have al := (AL_3 (t := Tn) hL hb (by omega)).2
  have pc := AL_pc (G := L) (wh := 1) (hs := hs) Tn
  obtain ⟨pp, cp⟩ := PM_pos (hs := hs) hL hb Tn (by omega)
  rw [← eAL] at hX hR ⊢
  obtain ⟨τ1, a1, a2, a3⟩ := m_lp7 hL h22 (by omega) hT2 hhs Tn 1000000 0 (upS L 111 32 1) (by omega) (by have := hL.things.2.2; omega) (fun q => by rw [upS_ne (by decide)]) (by rw [upS_eq]; rfl)
  obtain ⟨τ2, b1, b2, b3⟩ := m_lp74 49 1000000 0 τ1 (by omega) (by omega) (fun k hk => absurd hk (Nat.not_lt_zero _))
  have B2 : ∀ q, τ2 113 q = L 113 q := fun q => by rw [b3 113 q (by decide), a3 113 q (by decide), upS_ne (by decide)]
  have h32 : τ2 111 32 = ((PM L 1 hs Tn ^ 6 : Nat) : Int) := by rw [b3 111 32 (by decide), a2]
  have hR2 : ∀ j : Nat, j < n → XRec L 1 1 1 (AL L 1 Tn) X H T j := fun j hj => XRec_cg e (hR j hj)
  obtain ⟨x0, h0, t0⟩ := (hR 0 hn0).1 rfl
  have hsub := (hL.tree (by omega)).1
  rw [show (L 16 0).toNat = n by omega] at hsub hhs
  have hP : ∀ t : Nat, Has L 0 n (t : Int) → wo L 1 t ∣ PM L 1 hs Tn := fun t ht => by
    refine PM_dvd ((hhs t).mpr ht) Tn ?_
    obtain ⟨i, -, i2, i3, i4⟩ := ht
    have nd := (hL.nd (p := (i : Int)) (by omega) (by omega)).2.2.2.2
    rw [Int.toNat_natCast] at nd
    rcases nd with ⟨z, -⟩ | ⟨z, -⟩ | ⟨z, z1, z2⟩
    · omega
    · omega
    · omega
  have hw := mr_tree (C := CM L 1 hs Tn) (P := PM L 1 hs Tn) (al := AL L 1 Tn) (n := n) hL h22 hn2 al cp hP hX hR2 6 0 n _ hsub (Nat.le_refl n) (fun w hw => by
    have e5 : CM L 1 hs Tn * w = CM L 1 hs Tn * PM L 1 hs Tn ^ 6 := by rw [hw, x0, pc]
    rw [Nat.eq_of_mul_eq_mul_left cp e5]
    exact Nat.dvd_refl _)
  obtain ⟨M, E, d1, d2, d3, d4⟩ := hw 60 (PM L 1 hs Tn ^ 6) (fun _ => 0) τ2 (by decide) (by rw [x0, pc]) (by omega) B2 (fun i hi => (b2 i hi).trans w00.symm)
  have d4' : ∀ i : Nat, i < 49 → psum (cP σ X H T i) n = (CM L 1 hs Tn : Int) * E i := fun i hi => by
    have := d4 i hi
    rw [cP_cg e] at this
    have z : psum (cP σ X H T i) 0 = 0 := rfl
    rw [z, Int.zero_add] at this
    exact this.symm
  have mE : ∀ i : Nat, i < 49 → M 123 i = E i := fun i hi => by
    have g1 := d2 i hi
    have g2 := bP i
    rw [d4' i hi] at g2
    have g3 : (E i).natAbs ≤ CM L 1 hs Tn * (E i).natAbs := Nat.le_mul_of_pos_left _ cp
    have g4 : ((CM L 1 hs Tn : Int) * E i).natAbs = CM L 1 hs Tn * (E i).natAbs := by rw [Int.natAbs_mul, Int.natAbs_natCast]
    rw [← g4] at g3
    generalize (CM L 1 hs Tn : Int) * E i = Q at g2 g3
    rw [g1]
    show w64 (0 + E i) = _
    rw [Int.zero_add]
    exact w64_o (by omega) (by omega)
  refine ⟨M, CM L 1 hs Tn, PM L 1 hs Tn ^ 6, E, ?_, by rw [d3 111 32 (by decide), h32], mE, cp, pc, d4'⟩
  have d1 : f_M_raise 60 0 ((PM L 1 hs Tn ^ 6 : Nat) : Int) (H 0 : Int) (T 0 : Int) τ2 = some M := d1
  rw [h0, t0, c0n] at d1
  rw [c0n] at a1 b1
  unfold f_M_layPowers
  rw [xlet_s, a1, b1, h32, d1, xbR_s]
theorem tp_ok {σ : xSt} (h : Inv0 σ) (h0 : 0 < σ 16 0) : ∃ (σ1 : xSt) (al : Nat) (nP : Nat → Int), f_Odds_tellPolynomials σ = some σ1 ∧ σ1 87 7 = (al : Int) ∧ 1 ≤ al ∧ al ≤ 150094635296999121 ∧ (∀ i : Nat, i < 49 → σ1 92 i = nP i ∧ -150094635296999121 ≤ nP i ∧ nP i ≤ 150094635296999121) ∧ PLk σ al nP := by
  have hb : Bnd 1 1 1 := ⟨by decide, by decide, by decide, by decide⟩
  obtain ⟨n, hn⟩ : ∃ n : Nat, σ 16 0 = (n : Int) := ⟨(σ 16 0).toNat, by omega⟩
  have ht3 := h.things
  obtain ⟨Tn, hT⟩ : ∃ n : Nat, σ 7 1 = (n : Int) := ⟨(σ 7 1).toNat, by omega⟩
  have h80 := h.nodes
  obtain ⟨σ1, X, H, T, s1, s2, s3⟩ := x_spread h hb hT hn
  obtain ⟨t1, t2, t3, t4, -⟩ := s2
  obtain ⟨p1, p2⟩ := pw_b h hT hn (by omega) (fun j hj => (t3 j hj).1) t4
  obtain ⟨al1, al⟩ := AL_3 (t := Tn) h hb (by omega)
  obtain ⟨σ2, b1, b2, b3⟩ := x_tp11 49 1000000 0 σ1 (by omega) (by omega) (fun k hk => absurd hk (Nat.not_lt_zero _))
  obtain ⟨σ3, c1, c2, c3⟩ := x_tp35 h (X := X) (H := H) (T := T) hn (fun j hj => ⟨p1 j hj, Nat.le_trans (t3 j hj).1 al⟩) n 1000000 0 σ2 (by omega) (by omega) (fun a q z1 z2 => by rw [b3 a q (by omega)]; exact t1.1 a q z1 z2) (fun j hj => by
    obtain ⟨-, -, -, q1, q2, q3⟩ := t3 j hj
    rw [b3 88 j (by decide), b3 89 j (by decide), b3 90 j (by decide)]
    exact ⟨q1, q2, q3⟩) (fun i hi => (b2 i hi).trans w00.symm)
  have s1 : f_Odds_spread 1 1 1 σ = some σ1 := s1
  rw [c0n] at b1 c1
  refine ⟨σ3, AL σ 1 Tn, fun i => psum (cP σ X H T i) n, ?_, by rw [c3 87 7 (by decide), b3 87 7 (by decide)]; exact t2, al1, al, fun i hi => ⟨?_, p2 i⟩, p_lock h hT hn (by omega) (fun j hj => (t3 j hj).1) t4 p2⟩
  · unfold f_Odds_tellPolynomials
    rw [s1, xbR_s, b1, c1]
  · have := p2 i
    rw [c2 i hi]
    exact w64_o (by omega) (by omega)
