/-! weights: the model's walk, THINGS -/
theorem mw_tree {G : xSt} (h : Inv0 G) (h22 : G 111 22 ≠ 0) {hd wh C P al n : Nat} {X H T : Nat → Nat} (hb : Bnd hd (wh - hd) wh) (hn : G 16 0 = (n : Int)) (hal : al ≤ 150094635296999121) (hC : 1 ≤ C) (hP : ∀ t : Nat, Has G 0 n (t : Int) → wo G wh t ∣ P) (hHS : HSum G hd (wh - hd) wh)
    (hX : ∀ j : Nat, j < n → X j ≤ al) (hR : ∀ j : Nat, j < n → XRec G hd (wh - hd) wh al X H T j) : ∀ (d k e m : Nat), Sub G 7 16 d k e m → e ≤ n → (∀ w, C * w = X k → P ^ d ∣ w) → MWk G hd wh C d k e X := by
  have h80 := h.nodes
  have hT := h.things
  intro d
  induction d with
  | zero =>
    intro k e m hS he _
    obtain ⟨h1, -, h2⟩ := hS
    subst h1
    exact mw_leaf h (by omega) (by rcases h2 with ⟨z, -⟩ | ⟨z, -⟩ <;> (intro q; have z : G 17 k = _ := z; omega))
  | succ d ih =>
    intro k e m hS he hdv
    have hlt := (Sub_lt (d + 1) k e m hS).1
    have hS0 := hS
    rcases hS with ⟨h1, -, h2⟩ | ⟨a1, a2, a3, f, hh, f0, fe, fs, fm⟩
    · subst h1
      exact mw_leaf h (by omega) (by rcases h2 with ⟨z, -⟩ | ⟨z, -⟩ <;> (intro q; have z : G 17 k = _ := z; omega))
    · have hk : (k : Int) < G 16 0 := by omega
      have a1 : G 17 k = 2 := a1
      have a2 : 0 ≤ G 18 k := a2
      have a3 : G 18 k < G 7 1 := a3
      obtain ⟨t, ht⟩ : ∃ t : Nat, G 18 k = (t : Int) := ⟨(G 18 k).toNat, by omega⟩
      have htl : (t : Int) < G 7 1 := by omega
      have hth := h.th (p := (t : Int)) (by omega) htl
      rw [Int.toNat_natCast] at hth
      have nd := h.nd (p := (k : Int)) (by omega) hk
      rw [Int.toNat_natCast] at nd
      obtain ⟨N, hN⟩ : ∃ N : Nat, G 10 t = (N : Int) := ⟨(G 10 t).toNat, by omega⟩
      have N2 : 2 ≤ N ∧ N ≤ 6 := by omega
      have hN2 : G (7 + 3) (G (16 + 2) k).toNat = (N : Int) := by
        show G 10 (G 18 k).toNat = _
        rw [ht, Int.toNat_natCast, hN]
      have fe2 : f N = e := by
        rw [hN2] at fe
        exact fe
      have fs2 : ∀ s : Nat, s < N → Sub G 7 16 d (f s) (f (s + 1)) (hh s) ∧ G 19 (f s) = (k : Int) ∧ G 20 (f s) = (s : Int) ∧ G 21 (6 * k + s) = (f s : Int) := fun s hs => by
        obtain ⟨g1, g2, g3, g4, g5⟩ := fs s (by rw [hN2]; omega)
        exact ⟨g1, g2, g3, g4⟩
      have hsin : ∀ s : Nat, s < N → k < f s ∧ f s < f (s + 1) ∧ f (s + 1) ≤ e := fun s hs => by
        have q := sons_in (f := f) (N := (N : Int)) (k := k) (e := e) (fun s hs => (Sub_lt d _ _ _ (fs2 s (by omega)).1).1) f0 (by rw [Int.toNat_natCast]; exact fe2) (s := s) (by omega)
        exact ⟨q.1, (Sub_lt d _ _ _ (fs2 s hs).1).1, q.2⟩
      have wf := fun (s : Nat) (hs : s < N) => wp_f (s := s) h hb htl (by omega)
      obtain ⟨w1, w2, -⟩ := wf 0 (by omega)
      have hdvd : wo G wh t ∣ P := hP t ⟨k, Nat.zero_le k, by omega, a1, ht⟩
      -- the sons' weights
      have Xs : ∀ s : Nat, s < N → X (f s) = X k / wo G wh t * pa G hd (wh - hd) t s := fun s hs => by
        obtain ⟨g1, g2, g3, g4⟩ := fs2 s hs
        have hi := hsin s hs
        exact ((hR (f s) (by omega)).2 (by omega) k s t g2 g3 ht).1
      intro fu w dp a b τ hfu hCw hdp hB hSm
      obtain ⟨fu, rfl⟩ : ∃ n2, fu = n2 + 1 := ⟨fu - 1, by omega⟩
      obtain ⟨x, hx⟩ := hdv w hCw
      have hw1 : wo G wh t ∣ w := by
        rw [hx, Nat.pow_succ]
        exact Nat.dvd_trans hdvd (Nat.dvd_trans (Nat.dvd_mul_left P (P ^ d)) (Nat.dvd_mul_right _ _))
      obtain ⟨y, hy⟩ := hw1
      have w0 : 0 < wo G wh t := by omega
      have hwy : w / wo G wh t = y := by rw [hy]; exact Nat.mul_div_cancel_left y w0
      have hXk : X k / wo G wh t = C * y := by
        rw [← hCw, hy, show C * (wo G wh t * y) = wo G wh t * (C * y) by ac_rfl]
        exact Nat.mul_div_cancel_left _ w0
      have hyd : P ^ d ∣ y := by
        obtain ⟨z, hz⟩ := hdvd
        have e1 : wo G wh t * y = wo G wh t * (P ^ d * z * x) := by
          rw [← hy, hx, Nat.pow_succ, hz]
          have : P ^ d * (wo G wh t * z) * x = wo G wh t * (P ^ d * z * x) := by ac_rfl
          rw [← hz] at this ⊢
          exact this
        have e2 := Nat.eq_of_mul_eq_mul_left w0 e1
        rw [e2, Nat.mul_assoc]
        exact Nat.dvd_mul_right _ _
      have hkn : k < n := by omega
      have hXk2 := hX k hkn
      have wle : w ≤ al := by
        have : w ≤ C * w := Nat.le_mul_of_pos_left w hC
        omega
      have wlt : w < 9223372036854775808 := by omega
      have so : f_M_sortOf (k : Int) τ = some (G 17 k) := by rw [m_sortOf (by omega) (by omega), Int.toNat_natCast, hB.1, ← nd.1]
      have wof : f_M_whichOf (k : Int) τ = some (t : Int) := by rw [m_whichOf (by omega) (by omega), Int.toNat_natCast, hB.1, ← nd.2.1, ht]
      have k80 : 0 ≤ (k : Int) ∧ (k : Int) < 80 := by omega
      have t3 : 0 ≤ (t : Int) ∧ (t : Int) < 3 := by omega
      have dp1 : dp < 100000 := by omega
      -- one behind the other
      have loop : ∀ (j s nf : Nat) (τ1 : xSt) (E : Nat → Nat) (S : Nat), s + j = N → j < nf → MdB G hd wh τ1 → MdS (fun i => a i + E i) (b + S) τ1 → (∀ i : Nat, i < 7 → nsum (gI G X i) (k + 1) + C * E i = nsum (gI G X i) (f s)) → nsum (gT G X) (k + 1) + C * S = nsum (gT G X) (f s) + (dp + 1) * (C * y * nsum (pa G hd (wh - hd) t) s) →
          ∃ (τ' : xSt) (E' : Nat → Nat) (S' : Nat), f_M_weigh_62 (g_M_weigh fu) nf (k : Int) (w : Int) (dp : Int) (t : Int) (s : Int) τ1 = some τ' ∧ MdS (fun i => a i + E' i) (b + S') τ' ∧ frW τ1 τ' ∧ (∀ i : Nat, i < 7 → nsum (gI G X i) (k + 1) + C * E' i = nsum (gI G X i) (f N)) ∧ nsum (gT G X) (k + 1) + C * S' = nsum (gT G X) (f N) + (dp + 1) * (C * y * nsum (pa G hd (wh - hd) t) N) := by
        intro j
        induction j with
        | zero =>
          intro s nf τ1 E S g1 g2 z1 z2 z3 z4
          obtain ⟨nf, rfl⟩ : ∃ n2, nf = n2 + 1 := ⟨nf - 1, by omega⟩
          obtain rfl : s = N := by omega
          have sd : f_M_sidesOf (t : Int) τ1 = some (s : Int) := by rw [m_sidesOf t3.1 t3.2, Int.toNat_natCast, z1.1, ← hth.1, hN]
          refine ⟨τ1, E, S, ?_, z2, fun _ _ _ _ => rfl, z3, z4⟩
          rw [f_M_weigh_62.eq_2, sd, xbR_s, if_neg (Int.lt_irrefl _)]
        | succ j ihj =>
          intro s nf τ1 E S g1 g2 z1 z2 z3 z4
          obtain ⟨nf, rfl⟩ : ∃ n2, nf = n2 + 1 := ⟨nf - 1, by omega⟩
          have hs : s < N := by omega
          have hsi : (s : Int) < (N : Int) := by omega
          have n1 : s < 100000 := by omega
          have hi := hsin s hs
          obtain ⟨g1', g2', g3', g4'⟩ := fs2 s hs
          have sd : f_M_sidesOf (t : Int) τ1 = some (N : Int) := by rw [m_sidesOf t3.1 t3.2, Int.toNat_natCast, z1.1, ← hth.1, hN]
          have po := m_paO h h22 z1 hb.1 hb.2.2.2 htl (show (s : Int) < G 10 t by omega)
          have ao := m_woO h h22 z1 htl
          have sps : nsum (pa G hd (wh - hd) t) (s + 1) = nsum (pa G hd (wh - hd) t) s + pa G hd (wh - hd) t s := rfl
          have ple := (wf s hs).2.2
          have hXs := Xs s hs
          rw [hXk] at hXs
          by_cases hp : pa G hd (wh - hd) t s = 0
          · have hz := zero_sub (hd := hd) (tl := wh - hd) (wh := wh) (al := al) (X := X) (H := H) (T := T) g1' (fun j hj => hR j (by omega)) (by rw [hXs, hp, Nat.mul_zero])
            have cI : ∀ i, nsum (gI G X i) (f (s + 1)) = nsum (gI G X i) (f s) := fun i => nsum_const _ (by omega) (fun j h1 h2 => by
              have := hz j h1 h2
              unfold gI gE gA
              rw [this]
              split <;> split <;> rfl)
            have cT : nsum (gT G X) (f (s + 1)) = nsum (gT G X) (f s) := nsum_const _ (by omega) (fun j h1 h2 => by
              have := hz j h1 h2
              unfold gT
              rw [this]
              split <;> rfl)
            obtain ⟨τ', E', S', d1, d2, d3, d4, d5⟩ := ihj (s + 1) nf τ1 E S (by omega) (by omega) z1 z2 (fun i hi2 => by rw [cI]; exact z3 i hi2) (by rw [cT, sps, hp, Nat.add_zero]; exact z4)
            refine ⟨τ', E', S', ?_, d2, d3, d4, d5⟩
            rw [f_M_weigh_62.eq_2, sd, xbR_s, if_pos hsi, po, xbR_s, hp, if_neg (by decide), w32_n1 n1, xlet_s, d1]
          · have hp0 : 0 < (pa G hd (wh - hd) t s : Int) := by omega
            have nx : f_M_nextOf (k : Int) (s : Int) τ1 = some ((f s : Nat) : Int) := by
              rw [m_nextOf k80.1 k80.2 (by omega) (by omega), Int.toNat_natCast, Int.toNat_natCast, z1.1, ← nd.2.2.1 s (by omega), g4']
            have w00 : ¬ (wo G wh t : Int) = 0 := by omega
            have ylt : y * pa G hd (wh - hd) t s < 9223372036854775808 := by
              have q1 : y * pa G hd (wh - hd) t s ≤ y * wo G wh t := Nat.mul_le_mul (Nat.le_refl _) ple
              have q2 : y * wo G wh t = w := by rw [hy, Nat.mul_comm]
              omega
            have xd : xldiv (w : Int) (wo G wh t : Int) = (y : Int) := by rw [xldiv_n wlt, hwy]
            have hCs : C * (y * pa G hd (wh - hd) t s) = X (f s) := by rw [hXs, Nat.mul_assoc]
            have hw' := ih (f s) (f (s + 1)) (hh s) g1' (by omega) (fun w' hw' => by
              have e : C * w' = C * (y * pa G hd (wh - hd) t s) := by rw [hw', hCs]
              rw [Nat.eq_of_mul_eq_mul_left (by omega) e]
              exact Nat.dvd_trans hyd (Nat.dvd_mul_right _ _))
            obtain ⟨τ2, E2, S2, e1, e2, e3, e4, e5⟩ := hw' fu (y * pa G hd (wh - hd) t s) (dp + 1) (fun i => a i + E i) (b + S) τ1 (by omega) hCs (by omega) z1 z2
            have B2 : MdB G hd wh τ2 := ⟨fun q => by rw [e3 113 q (by decide) (fun z => absurd z (by decide))]; exact z1.1 q, by rw [e3 122 0 (by decide) (fun z => absurd z (by decide))]; exact z1.2.1, by rw [e3 122 1 (by decide) (fun z => absurd z (by decide))]; exact z1.2.2⟩
            have S2' : MdS (fun i => a i + (E i + E2 i)) (b + (S + S2)) τ2 := by
              obtain ⟨y1, y2⟩ := e2
              refine ⟨fun i hi2 => ?_, by rw [y2, Nat.add_assoc]⟩
              have := y1 i hi2
              show _ = w64 ((a i + (E i + E2 i) : Nat) : Int)
              rw [← Nat.add_assoc]
              exact this
            obtain ⟨τ', E', S', d1, d2, d3, d4, d5⟩ := ihj (s + 1) nf τ2 (fun i => E i + E2 i) (S + S2) (by omega) (by omega) B2 S2' (fun i hi2 => by
              show nsum (gI G X i) (k + 1) + C * (E i + E2 i) = nsum (gI G X i) (f (s + 1))
              rw [Nat.mul_add, ← Nat.add_assoc, z3 i hi2]
              exact e4 i hi2) (by
              rw [Nat.mul_add, ← Nat.add_assoc, z4, sps, Nat.mul_add, Nat.mul_add]
              have q3 : (dp + 1) * X (f s) = (dp + 1) * (C * y * pa G hd (wh - hd) t s) := by rw [hXs]
              rw [← q3]
              omega)
            refine ⟨τ', E', S', ?_, d2, fun c q h1 h2 => by rw [d3 c q h1 h2, e3 c q h1 h2], d4, d5⟩
            rw [f_M_weigh_62.eq_2, sd, xbR_s, if_pos hsi, po, xbR_s, if_pos hp0, nx, xbR_s, ao, xbR_s, if_neg w00, xbR_s, xd, w64_mul ylt, w32_n1 dp1, e1, xbR_s, w32_n1 n1, xlet_s, d1]
      have tk : gT G X k = X k := by unfold gT; rw [if_pos a1]
      have sT : nsum (gT G X) (k + 1) = nsum (gT G X) k + X k := by
        show nsum (gT G X) k + gT G X k = _
        rw [tk]
      have sI : ∀ i, nsum (gI G X i) (k + 1) = nsum (gI G X i) k := fun i => by
        show nsum (gI G X i) k + gI G X i k = _
        rw [gI_th a1, Nat.add_zero]
      obtain ⟨τ', E', S', d1, d2, d3, d4, d5⟩ := loop N 0 1000000 τ (fun _ => 0) 0 (by omega) (by omega) hB (by
        obtain ⟨y1, y2⟩ := hSm
        exact ⟨fun i hi => y1 i hi, y2⟩) (fun i hi => by rw [f0, Nat.mul_zero, Nat.add_zero]) (by
        rw [f0]
        show nsum (gT G X) (k + 1) + C * 0 = nsum (gT G X) (k + 1) + (dp + 1) * (C * y * 0)
        rw [Nat.mul_zero, Nat.mul_zero, Nat.mul_zero])
      have hsm := hHS t htl
      rw [hN, Int.toNat_natCast] at hsm
      have q4 : C * y * nsum (pa G hd (wh - hd) t) N = X k := by
        rw [hsm, ← hCw, hy]
        ac_rfl
      rw [c0n] at d1
      rw [q4, fe2, sT] at d5
      refine ⟨τ', E', S', ?_, d2, d3, fun i hi => by rw [← sI, ← fe2]; exact d4 i hi, ?_⟩
      · show f0_M_weigh (g_M_weigh fu) (k : Int) (w : Int) (dp : Int) τ = _
        unfold f0_M_weigh
        rw [so, xbR_s, if_neg (by omega), wof, xbR_s, d1]
      · have q5 : (dp + 1) * X k = dp * X k + X k := by rw [Nat.add_mul, Nat.one_mul]
        omega
