/-! powers: the model's walk, THINGS -/
theorem mr_tree {G : xSt} (h : Inv0 G) (h22 : G 111 22 ≠ 0) {C P al n : Nat} {X H T : Nat → Nat} (hn : G 16 0 = (n : Int)) (hal : al ≤ 150094635296999121) (hC : 1 ≤ C) (hP : ∀ t : Nat, Has G 0 n (t : Int) → wo G 1 t ∣ P)
    (hX : ∀ j : Nat, j < n → X j ≤ al) (hR : ∀ j : Nat, j < n → XRec G 1 1 1 al X H T j) : ∀ (d k e m : Nat), Sub G 7 16 d k e m → e ≤ n → (∀ w, C * w = X k → P ^ d ∣ w) → MRk G C d k e X H T := by
  have h80 := h.nodes
  have hT := h.things
  have hb : Bnd 1 1 1 := ⟨by decide, by decide, by decide, by decide⟩
  intro d
  induction d with
  | zero =>
    intro k e m hS he _
    obtain ⟨h1, -, h2⟩ := hS
    subst h1
    have hkn : k < n := by omega
    exact mr_leaf h hC (by omega) (by rcases h2 with ⟨z, -⟩ | ⟨z, -⟩ <;> (intro q; have z : G 17 k = _ := z; omega)) (Nat.le_trans (hX k hkn) hal)
  | succ d ih =>
    intro k e m hS he hdv
    have hlt := (Sub_lt (d + 1) k e m hS).1
    have hkn : k < n := by omega
    rcases hS with ⟨h1, -, h2⟩ | ⟨a1, a2, a3, f, hh, f0, fe, fs, fm⟩
    · subst h1
      exact mr_leaf h hC (by omega) (by rcases h2 with ⟨z, -⟩ | ⟨z, -⟩ <;> (intro q; have z : G 17 k = _ := z; omega)) (Nat.le_trans (hX k hkn) hal)
    · have hk : (k : Int) < G 16 0 := by omega
      have a1 : G 17 k = 2 := a1
      have a2 : 0 ≤ G 18 k := a2
      have a3 : G 18 k < G 7 1 := a3
      obtain ⟨t, ht⟩ : ∃ t : Nat, G 18 k = (t : Int) := ⟨(G 18 k).toNat, by omega⟩
      have htl : (t : Int) < G 7 1 := by omega
      have hth := h.th (p := (t : Int)) (by omega) htl
      rw [Int.toNat_natCast] at hth
      have nd := h.nd (p := (k : Int)) (by omega) hk
      rw [Int.toNat_natCast] at nd
      obtain ⟨N, hN⟩ : ∃ N : Nat, G 10 t = (N : Int) := ⟨(G 10 t).toNat, by omega⟩
      have N2 : 2 ≤ N ∧ N ≤ 6 := by omega
      have hN2 : G (7 + 3) (G (16 + 2) k).toNat = (N : Int) := by
        show G 10 (G 18 k).toNat = _
        rw [ht, Int.toNat_natCast, hN]
      have fe2 : f N = e := by
        rw [hN2] at fe
        exact fe
      have fs2 : ∀ s : Nat, s < N → Sub G 7 16 d (f s) (f (s + 1)) (hh s) ∧ G 19 (f s) = (k : Int) ∧ G 20 (f s) = (s : Int) ∧ G 21 (6 * k + s) = (f s : Int) := fun s hs => by
        obtain ⟨g1, g2, g3, g4, g5⟩ := fs s (by rw [hN2]; omega)
        exact ⟨g1, g2, g3, g4⟩
      have hsin : ∀ s : Nat, s < N → k < f s ∧ f s < f (s + 1) ∧ f (s + 1) ≤ e := fun s hs => by
        have q := sons_in (f := f) (N := (N : Int)) (k := k) (e := e) (fun s hs => (Sub_lt d _ _ _ (fs2 s (by omega)).1).1) f0 (by rw [Int.toNat_natCast]; exact fe2) (s := s) (by omega)
        exact ⟨q.1, (Sub_lt d _ _ _ (fs2 s hs).1).1, q.2⟩
      have wf := fun (s : Nat) (hs : s < N) => wp_f (s := s) h hb htl (by omega)
      obtain ⟨w1, w2, -⟩ := wf 0 (by omega)
      have hdvd : wo G 1 t ∣ P := hP t ⟨k, Nat.zero_le k, by omega, a1, ht⟩
      -- the sons
      have Xs : ∀ s : Nat, s < N → X (f s) = X k / wo G 1 t * pa G 1 1 t s ∧ H (f s) = H k + (if (t : Int) = G 7 3 ∧ s = 0 then 1 else 0) ∧ T (f s) = T k + (if (t : Int) = G 7 3 ∧ s = 1 then 1 else 0) := fun s hs => by
        obtain ⟨g1, g2, g3, g4⟩ := fs2 s hs
        have hi := hsin s hs
        exact (hR (f s) (by omega)).2 (by omega) k s t g2 g3 ht
      intro fu w V τ hfu hCw hdp hB hV
      obtain ⟨fu, rfl⟩ : ∃ n2, fu = n2 + 1 := ⟨fu - 1, by omega⟩
      obtain ⟨x, hx⟩ := hdv w hCw
      have hw1 : wo G 1 t ∣ w := by
        rw [hx, Nat.pow_succ]
        exact Nat.dvd_trans hdvd (Nat.dvd_trans (Nat.dvd_mul_left P (P ^ d)) (Nat.dvd_mul_right _ _))
      obtain ⟨y, hy⟩ := hw1
      have w0 : 0 < wo G 1 t := by omega
      have hwy : w / wo G 1 t = y := by rw [hy]; exact Nat.mul_div_cancel_left y w0
      have hXk : X k / wo G 1 t = C * y := by
        rw [← hCw, hy, show C * (wo G 1 t * y) = wo G 1 t * (C * y) by ac_rfl]
        exact Nat.mul_div_cancel_left _ w0
      have hyd : P ^ d ∣ y := by
        obtain ⟨z, hz⟩ := hdvd
        have e1 : wo G 1 t * y = wo G 1 t * (P ^ d * z * x) := by
          rw [← hy, hx, Nat.pow_succ, hz]
          have : P ^ d * (wo G 1 t * z) * x = wo G 1 t * (P ^ d * z * x) := by ac_rfl
          rw [← hz] at this ⊢
          exact this
        have e2 := Nat.eq_of_mul_eq_mul_left w0 e1
        rw [e2, Nat.mul_assoc]
        exact Nat.dvd_mul_right _ _
      have hXk2 := hX k hkn
      have wle : w ≤ al := by
        have : w ≤ C * w := Nat.le_mul_of_pos_left w hC
        omega
      have wlt : w < 9223372036854775808 := by omega
      have so : f_M_sortOf (k : Int) τ = some (G 17 k) := by rw [m_sortOf (by omega) (by omega), Int.toNat_natCast, hB, ← nd.1]
      have wof : f_M_whichOf (k : Int) τ = some (t : Int) := by rw [m_whichOf (by omega) (by omega), Int.toNat_natCast, hB, ← nd.2.1, ht]
      have k80 : 0 ≤ (k : Int) ∧ (k : Int) < 80 := by omega
      have t3 : 0 ≤ (t : Int) ∧ (t : Int) < 3 := by omega
      have hop := opG h h22
      have cp0 : ∀ i j, X j = 0 → cP G X H T i j = 0 := fun i j z => by
        unfold cP
        rw [z, pwS_0]
        split <;> rfl
      have hk100 : H k < 100000 := by omega
      have tk100 : T k < 100000 := by omega
      -- one SIDE
      have son : ∀ (s : Nat) (τ1 : xSt) (E : Nat → Int), s < N → (∀ q, τ1 113 q = G 113 q) → (∀ i : Nat, i < 49 → τ1 123 i = w64 (V i + E i)) → (∀ i : Nat, i < 49 → psum (cP G X H T i) (k + 1) + (C : Int) * E i = psum (cP G X H T i) (f s)) →
          ∃ (τ2 : xSt) (E2 : Nat → Int), (∀ k97, ∃ n2 : Nat, n2 = 0 ∧ f_M_raise_97 (g_M_raise fu) (k97 + 1) (k : Int) (w : Int) (H k : Int) (T k : Int) (t : Int) (s : Int) τ1 = f_M_raise_97 (g_M_raise fu) k97 (k : Int) (w : Int) (H k : Int) (T k : Int) (t : Int) ((s + 1 : Nat) : Int) τ2) ∧ (∀ c q, c ≠ 123 → τ2 c q = τ1 c q) ∧ (∀ i : Nat, i < 49 → τ2 123 i = w64 (V i + E2 i)) ∧ ∀ i : Nat, i < 49 → psum (cP G X H T i) (k + 1) + (C : Int) * E2 i = psum (cP G X H T i) (f (s + 1)) := by
        intro s τ1 E hs z1 z2 z3
        have hsi : (s : Int) < (N : Int) := by omega
        have n1 : s < 100000 := by omega
        have hi := hsin s hs
        obtain ⟨g1', g2', g3', g4'⟩ := fs2 s hs
        have sd : f_M_sidesOf (t : Int) τ1 = some (N : Int) := by rw [m_sidesOf t3.1 t3.2, Int.toNat_natCast, z1, ← hth.1, hN]
        have nx : f_M_nextOf (k : Int) (s : Int) τ1 = some ((f s : Nat) : Int) := by
          rw [m_nextOf k80.1 k80.2 (by omega) (by omega), Int.toNat_natCast, Int.toNat_natCast, z1, ← nd.2.2.1 s (by omega), g4']
        have ple := (wf s hs).2.2
        obtain ⟨hXs, hHs, hTs⟩ := Xs s hs
        rw [hXk] at hXs
        -- the walk below
        have walk : ∀ w' : Nat, C * w' = X (f s) → (P ^ d ∣ w') → ∃ (τ2 : xSt) (E2 : Nat → Int), g_M_raise fu ((f s : Nat) : Int) (w' : Int) (H (f s) : Int) (T (f s) : Int) τ1 = some τ2 ∧ (∀ c q, c ≠ 123 → τ2 c q = τ1 c q) ∧ (∀ i : Nat, i < 49 → τ2 123 i = w64 (V i + E2 i)) ∧ ∀ i : Nat, i < 49 → psum (cP G X H T i) (k + 1) + (C : Int) * E2 i = psum (cP G X H T i) (f (s + 1)) := fun w' hw1 hw2 => by
          have hht : H (f s) + T (f s) + d ≤ 6 := by
            rw [hHs, hTs]
            split <;> split <;> omega
          obtain ⟨τ2, E2, e1, e2, e3, e4⟩ := ih (f s) (f (s + 1)) (hh s) g1' (by omega) (fun w'' hw'' => by
            have e : C * w'' = C * w' := by rw [hw'', hw1]
            rw [Nat.eq_of_mul_eq_mul_left (by omega) e]
            exact hw2) fu w' (fun i => V i + E i) τ1 (by omega) hw1 hht z1 z2
          refine ⟨τ2, fun i => E i + E2 i, e1, e3, fun i hi2 => ?_, fun i hi2 => ?_⟩
          · show _ = w64 (V i + (E i + E2 i))
            rw [← Int.add_assoc]
            exact e2 i hi2
          · show psum (cP G X H T i) (k + 1) + (C : Int) * (E i + E2 i) = _
            rw [Int.mul_add, ← Int.add_assoc, z3 i hi2]
            exact e4 i hi2
        by_cases ho : (t : Int) = G 7 3
        · have wo1 : wo G 1 t = 1 := if_pos ho
          have pa1 : pa G 1 1 t s = 1 := by
            unfold pa
            rw [if_pos ho]
            split <;> rfl
          have yw : y = w := by rw [hy, wo1, Nat.one_mul]
          have s2 : N = 2 := by
            have h9 := (hth.2.2.2.2.2.2.2.2.2.2.1 ho.symm).2.2.2
            rcases hth.2.2.2.2.2.2.2.1 with z | ⟨-, z⟩
            · omega
            · omega
          obtain ⟨τ2, E2, e1, e2, e3, e4⟩ := walk w (by rw [hXs, pa1, Nat.mul_one, yw]) (yw ▸ hyd)
          refine ⟨τ2, E2, fun nf => ⟨0, rfl, ?_⟩, e2, e3, e4⟩
          rw [hHs, hTs] at e1
          by_cases hz : s = 0
          · subst hz
            rw [if_pos ⟨ho, rfl⟩, if_neg (by omega), Nat.add_zero (T k)] at e1
            rw [f_M_raise_97.eq_2, sd, xbR_s, if_pos hsi, if_pos (by rw [z1, hop]; exact ho), nx, xbR_s, if_pos c0n]
            unfold f_M_raise_145
            rw [if_pos c0n]
            unfold f_M_raise_159
            rw [w32_n1 hk100, e1, xbR_s, w32_n1 n1, xlet_s]
          · have hs1 : s = 1 := by omega
            subst hs1
            rw [if_neg (by omega), if_pos ⟨ho, rfl⟩, Nat.add_zero (H k)] at e1
            rw [f_M_raise_97.eq_2, sd, xbR_s, if_pos hsi, if_pos (by rw [z1, hop]; exact ho), nx, xbR_s, if_neg (by decide)]
            unfold f_M_raise_145
            rw [if_neg (by decide)]
            unfold f_M_raise_159
            rw [w32_n1 tk100, e1, xbR_s, w32_n1 n1, xlet_s]
        · have hno : ¬ (t : Int) = τ1 113 2 := by rw [z1, hop]; exact ho
          have woe : wo G 1 t = (G 11 t).toNat := if_neg ho
          have pae : pa G 1 1 t s = (G 12 (6 * t + s)).toNat := if_neg ho
          have q5 := hth.2.2.2.2.1
          have q7 := hth.2.2.2.2.2.2.1 s (by omega)
          have po : f_M_sideOf (t : Int) (s : Int) τ1 = some (pa G 1 1 t s : Int) := by
            rw [m_sideOf (by omega) (by omega) (by omega) (by omega), Int.toNat_natCast, Int.toNat_natCast, z1, ← q7.1, pae, Int.toNat_of_nonneg q7.2.1]
          have ao : f_M_partsOf (t : Int) τ1 = some (wo G 1 t : Int) := by
            rw [m_partsOf (by omega) (by omega), Int.toNat_natCast, z1, ← hth.2.2.2.1, woe, Int.toNat_of_nonneg (by omega)]
          rw [if_neg (fun z => ho z.1), Nat.add_zero] at hHs hTs
          by_cases hp : pa G 1 1 t s = 0
          · have hz := zero_sub (hd := 1) (tl := 1) (wh := 1) (al := al) (X := X) (H := H) (T := T) g1' (fun j hj => hR j (by omega)) (by rw [hXs, hp, Nat.mul_zero])
            have cI : ∀ i, psum (cP G X H T i) (f (s + 1)) = psum (cP G X H T i) (f s) := fun i => psum_const _ (by omega) (fun j h1 h2 => cp0 i j (hz j h1 h2))
            refine ⟨τ1, E, fun nf => ⟨0, rfl, ?_⟩, fun _ _ _ => rfl, z2, fun i hi2 => by rw [cI]; exact z3 i hi2⟩
            rw [f_M_raise_97.eq_2, sd, xbR_s, if_pos hsi, if_neg hno, po, xbR_s, hp, if_neg (by decide), w32_n1 n1, xlet_s]
          · have hp0 : 0 < (pa G 1 1 t s : Int) := by omega
            have w00 : ¬ (wo G 1 t : Int) = 0 := by omega
            have ylt : y * pa G 1 1 t s < 9223372036854775808 := by
              have q1 : y * pa G 1 1 t s ≤ y * wo G 1 t := Nat.mul_le_mul (Nat.le_refl _) ple
              have q2 : y * wo G 1 t = w := by rw [hy, Nat.mul_comm]
              omega
            have xd : xldiv (w : Int) (wo G 1 t : Int) = (y : Int) := by rw [xldiv_n wlt, hwy]
            obtain ⟨τ2, E2, e1, e2, e3, e4⟩ := walk (y * pa G 1 1 t s) (by rw [hXs, Nat.mul_assoc]) (Nat.dvd_trans hyd (Nat.dvd_mul_right _ _))
            rw [hHs, hTs] at e1
            refine ⟨τ2, E2, fun nf => ⟨0, rfl, ?_⟩, e2, e3, e4⟩
            rw [f_M_raise_97.eq_2, sd, xbR_s, if_pos hsi, if_neg hno, po, xbR_s, if_pos hp0, nx, xbR_s, ao, xbR_s, if_neg w00, xbR_s, xd, w64_mul ylt, e1, xbR_s, w32_n1 n1, xlet_s]
      -- one behind the other
      have loop : ∀ (j s nf : Nat) (τ1 : xSt) (E : Nat → Int), s + j = N → j < nf → (∀ q, τ1 113 q = G 113 q) → (∀ i : Nat, i < 49 → τ1 123 i = w64 (V i + E i)) → (∀ i : Nat, i < 49 → psum (cP G X H T i) (k + 1) + (C : Int) * E i = psum (cP G X H T i) (f s)) →
          ∃ (τ' : xSt) (E' : Nat → Int), f_M_raise_97 (g_M_raise fu) nf (k : Int) (w : Int) (H k : Int) (T k : Int) (t : Int) (s : Int) τ1 = some τ' ∧ (∀ i : Nat, i < 49 → τ' 123 i = w64 (V i + E' i)) ∧ (∀ c q, c ≠ 123 → τ' c q = τ1 c q) ∧ ∀ i : Nat, i < 49 → psum (cP G X H T i) (k + 1) + (C : Int) * E' i = psum (cP G X H T i) (f N) := by
        intro j
        induction j with
        | zero =>
          intro s nf τ1 E g1 g2 z1 z2 z3
          obtain ⟨nf, rfl⟩ : ∃ n2, nf = n2 + 1 := ⟨nf - 1, by omega⟩
          obtain rfl : s = N := by omega
          have sd : f_M_sidesOf (t : Int) τ1 = some (s : Int) := by rw [m_sidesOf t3.1 t3.2, Int.toNat_natCast, z1, ← hth.1, hN]
          refine ⟨τ1, E, ?_, z2, fun _ _ _ => rfl, z3⟩
          rw [f_M_raise_97.eq_2, sd, xbR_s, if_neg (Int.lt_irrefl _)]
        | succ j ihj =>
          intro s nf τ1 E g1 g2 z1 z2 z3
          obtain ⟨nf, rfl⟩ : ∃ n2, nf = n2 + 1 := ⟨nf - 1, by omega⟩
          obtain ⟨τ2, E2, e1, e2, e3, e4⟩ := son s τ1 E (by omega) z1 z2 z3
          obtain ⟨τ', E', d1, d2, d3, d4⟩ := ihj (s + 1) nf τ2 E2 (by omega) (by omega) (fun q => by rw [e2 113 q (by decide)]; exact z1 q) e3 e4
          obtain ⟨-, -, st⟩ := e1 nf
          exact ⟨τ', E', by rw [st, d1], d2, fun c q hc => by rw [d3 c q hc, e2 c q hc], d4⟩
      have tk : ∀ i, psum (cP G X H T i) (k + 1) = psum (cP G X H T i) k := fun i => by
        have e1 : psum (cP G X H T i) (k + 1) = psum (cP G X H T i) k + cP G X H T i k := rfl
        have e2 : cP G X H T i k = 0 := if_pos a1
        rw [e1, e2, Int.add_zero]
      obtain ⟨τ', E', d1, d2, d3, d4⟩ := loop N 0 1000000 τ (fun _ => 0) (by omega) (by omega) hB (fun i hi => by
        show _ = w64 (V i + 0)
        rw [Int.add_zero]
        exact hV i hi) (fun i hi => by rw [f0, Int.mul_zero, Int.add_zero])
      rw [c0n] at d1
      refine ⟨τ', E', ?_, d2, d3, fun i hi => by rw [← tk, ← fe2]; exact d4 i hi⟩
      show f0_M_raise (g_M_raise fu) (k : Int) (w : Int) (H k : Int) (T k : Int) τ = _
      unfold f0_M_raise
      rw [so, xbR_s, if_neg (by omega), wof, xbR_s, d1]
