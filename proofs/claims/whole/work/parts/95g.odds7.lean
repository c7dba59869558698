/-! weights: both sides -/
theorem w00 : w64 ((0 : Nat) : Int) = 0 := rfl
def WLk (σ : xSt) (hd wh al nA nT : Nat) (nE : Nat → Nat) : Prop := ∀ L, Inv0 L → L 111 22 ≠ 0 → (∀ a k, a ≤ 86 → L a k = σ a k) → ∃ (M : xSt) (C B A S : Nat) (E : Nat → Nat), f_M_layWeights (hd : Int) (wh : Int) L = some (if A < B then 1 else 0, M) ∧ M 111 29 = (B : Int) ∧ M 121 6 = (A : Int) ∧ M 111 30 = (S : Int) ∧ (∀ i : Nat, i < 6 → M 121 i = (E i : Int)) ∧ 1 ≤ C ∧ al = C * B ∧ nA = C * A ∧ nT = C * S ∧ ∀ i : Nat, i < 6 → nE i = C * E i
theorem w_lock {σ : xSt} (h : Inv0 σ) {hd wh Tn n : Nat} (hb : Bnd hd (wh - hd) wh) (hT : σ 7 1 = (Tn : Int)) (hn : σ 16 0 = (n : Int)) (hn0 : 0 < n) {X H T : Nat → Nat} (hX : ∀ j : Nat, j < n → X j ≤ AL σ wh Tn) (hR : ∀ j : Nat, j < n → XRec σ hd (wh - hd) wh (AL σ wh Tn) X H T j)
    (bA : nsum (gI σ X 6) n ≤ AL σ wh Tn) (bE : ∀ i : Nat, i < 7 → nsum (gI σ X i) n ≤ AL σ wh Tn) (bT : nsum (gT σ X) n ≤ 6 * AL σ wh Tn) :
    WLk σ hd wh (AL σ wh Tn) (nsum (gI σ X 6) n) (nsum (gT σ X) n) (fun i => nsum (gI σ X i) n) := by
  intro L hL h22 e
  obtain ⟨hs, hhs⟩ : ∃ hs : Nat → Bool, ∀ t : Nat, hs t = true ↔ Has L 0 (L 16 0).toNat (t : Int) := ⟨fun t => @decide _ (Classical.propDecidable (Has L 0 (L 16 0).toNat (t : Int))), fun t => @decide_eq_true_iff _ (Classical.propDecidable _)⟩
  have hT2 : L 7 1 = (Tn : Int) := by rw [e 7 1 (by decide), hT]
  have hn2 : L 16 0 = (n : Int) := by rw [e 16 0 (by decide), hn]
  have eAL := AL_cg e (wh := wh) Tn
  have al := (AL_3 (t := Tn) hL hb (by omega)).2
  have pc := AL_pc (G := L) (wh := wh) (hs := hs) Tn
  obtain ⟨pp, cp⟩ := PM_pos (hs := hs) hL hb Tn (by omega)
  rw [← eAL] at bA bE bT hX hR ⊢
  have hHS : HSum L hd (wh - hd) wh := hsum_ok hL (Or.inl (by have := hb.1; omega))
  obtain ⟨τ1, a1, a2, a3⟩ := m_lw21 hL h22 (by omega) hb hT2 hhs Tn 1000000 0 (upS (upS (upS L 122 0 (hd : Int)) 122 1 (wh : Int)) 111 29 1) (by omega) (by have := hL.things.2.2; omega) ⟨fun q => by rw [upS_ne (by decide), upS_ne (by decide), upS_ne (by decide)], by rw [upS_ne (by decide), upS_nk (by decide), upS_eq], by rw [upS_ne (by decide), upS_eq]⟩ (by rw [upS_eq]; rfl)
  obtain ⟨τ2, b1, b2, b3⟩ := m_lw82 7 1000000 0 (upS τ1 111 30 0) (by omega) (by omega) (fun k hk => absurd hk (Nat.not_lt_zero _))
  have B2 : MdB L hd wh τ2 := by
    have q : ∀ c k, c ≠ 121 → c ≠ 111 → τ2 c k = (upS (upS (upS L 122 0 (hd : Int)) 122 1 (wh : Int)) 111 29 1) c k := fun c k z1 z2 => by rw [b3 c k z1, upS_ne z2, a3 c k (fun z => absurd z z2)]
    exact ⟨fun k => by rw [q 113 k (by decide) (by decide), upS_ne (by decide), upS_ne (by decide), upS_ne (by decide)], by rw [q 122 0 (by decide) (by decide), upS_ne (by decide), upS_nk (by decide), upS_eq], by rw [q 122 1 (by decide) (by decide), upS_ne (by decide), upS_eq]⟩
  have h29 : τ2 111 29 = ((PM L wh hs Tn ^ 6 : Nat) : Int) := by rw [b3 111 29 (by decide), upS_nk (by decide), a2]
  have hR2 : ∀ j : Nat, j < n → XRec L hd (wh - hd) wh (AL L wh Tn) X H T j := fun j hj => XRec_cg e (hR j hj)
  have x0 : X 0 = AL L wh Tn := ((hR 0 hn0).1 rfl).1
  have hsub := (hL.tree (by omega)).1
  rw [show (L 16 0).toNat = n by omega] at hsub hhs
  have hP : ∀ t : Nat, Has L 0 n (t : Int) → wo L wh t ∣ PM L wh hs Tn := fun t ht => by
    refine PM_dvd ((hhs t).mpr ht) Tn ?_
    obtain ⟨i, -, i2, i3, i4⟩ := ht
    have nd := (hL.nd (p := (i : Int)) (by omega) (by omega)).2.2.2.2
    rw [Int.toNat_natCast] at nd
    rcases nd with ⟨z, -⟩ | ⟨z, -⟩ | ⟨z, z1, z2⟩
    · omega
    · omega
    · omega
  have hw := mw_tree (C := CM L wh hs Tn) (P := PM L wh hs Tn) (al := AL L wh Tn) (n := n) hL h22 hb hn2 al cp hP hHS hX hR2 6 0 n _ hsub (Nat.le_refl n) (fun w hw => by
    have e5 : CM L wh hs Tn * w = CM L wh hs Tn * PM L wh hs Tn ^ 6 := by rw [hw, x0, pc]
    rw [Nat.eq_of_mul_eq_mul_left cp e5]
    exact Nat.dvd_refl _)
  obtain ⟨M, E, S, d1, d2, d3, d4, d5⟩ := hw 60 (PM L wh hs Tn ^ 6) 0 (fun _ => 0) 0 τ2 (by decide) (by rw [x0, pc]) (by decide) B2 ⟨fun i hi => (b2 i hi).trans w00.symm, (b3 111 30 (by decide)).trans (upS_eq.trans w00.symm)⟩
  have d4' : ∀ i : Nat, i < 7 → nsum (gI σ X i) n = CM L wh hs Tn * E i := fun i hi => by
    have := d4 i hi
    rw [gI_cg e] at this
    have z : nsum (gI σ X i) 0 = 0 := rfl
    rw [z, Nat.zero_add] at this
    exact this.symm
  have d5' : nsum (gT σ X) n = CM L wh hs Tn * S := by
    rw [gT_cg e, Nat.zero_mul, Nat.add_zero] at d5
    have z : nsum (gT σ X) 0 = 0 := rfl
    rw [z, Nat.zero_add] at d5
    exact d5.symm
  obtain ⟨m1, m2⟩ := d2
  have le1 : ∀ q : Nat, q ≤ CM L wh hs Tn * q := fun q => Nat.le_mul_of_pos_left _ cp
  have mE : ∀ i : Nat, i < 7 → M 121 i = (E i : Int) := fun i hi => by
    have g1 := m1 i hi
    have g2 : E i ≤ AL L wh Tn := by
      have := bE i hi
      rw [d4' i hi] at this
      exact Nat.le_trans (le1 _) this
    have g3 : (fun i => (fun _ => 0) i + E i) i = E i := Nat.zero_add _
    rw [g1]
    show w64 ((0 + E i : Nat) : Int) = _
    rw [Nat.zero_add]
    exact w64_o (by omega) (by omega)
  have mS : M 111 30 = (S : Int) := by
    have g2 : S ≤ 6 * AL L wh Tn := by
      rw [d5'] at bT
      exact Nat.le_trans (le1 _) bT
    rw [m2, Nat.zero_add]
    exact w64_o (by omega) (by omega)
  have m29 : M 111 29 = ((PM L wh hs Tn ^ 6 : Nat) : Int) := by rw [d3 111 29 (by decide) (by decide), h29]
  refine ⟨M, CM L wh hs Tn, PM L wh hs Tn ^ 6, E 6, S, E, ?_, m29, mE 6 (by decide), mS, fun i hi => mE i (by omega), cp, pc, d4' 6 (by decide), d5', fun i hi => d4' i (by omega)⟩
  have d1 : f_M_weigh 60 0 ((PM L wh hs Tn ^ 6 : Nat) : Int) 0 τ2 = some M := d1
  rw [c0n] at a1 b1
  unfold f_M_layWeights
  rw [xlet_s, xlet_s, xlet_s, a1, b1, h29, d1, xbR_s, mE 6 (by decide), m29]
  by_cases hz : E 6 < PM L wh hs Tn ^ 6
  · rw [if_pos (xlc_lt.mpr (by omega)), if_pos hz]
  · rw [if_neg (fun z => hz (by have := xlc_lt.mp z; omega)), if_neg hz]
