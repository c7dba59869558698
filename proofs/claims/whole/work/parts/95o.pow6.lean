/-! poly, like, even -/
theorem xlc_z {a b : Int} : xlc a b = 0 ↔ a = b := by
  constructor
  · intro h
    have h1 : ¬ a < b := fun z => by have := xlc_lt.mpr z; omega
    have h2 : ¬ b < a := fun z => by have := xlc_gt.mpr z; omega
    omega
  · intro h
    have h1 : ¬ xlc a b < 0 := fun z => by have := xlc_lt.mp z; omega
    have h2 : ¬ 0 < xlc a b := fun z => by have := xlc_gt.mp z; omega
    omega
theorem e86 {σ σ1 : xSt} (h : Fr s_sc σ σ1) : ∀ a k, a ≤ 86 → σ1 a k = σ a k := fun a k ha => h a k (inS_no (fun e he => by
  unfold s_sc at he
  simp only [List.mem_cons, List.not_mem_nil, or_false] at he
  rcases he with rfl | rfl | rfl | rfl | rfl | rfl | rfl | rfl | rfl | rfl | rfl | rfl | rfl | rfl | rfl | rfl | rfl <;> (dsimp only; omega)))
theorem x_powerOf {σ : xSt} {e w : Nat} (he : e < 7) (hw : w < 7) : f_Odds_powerOf (e : Int) (w : Int) σ = some (σ 92 (7 * e + w)) := by
  have c1 : 0 ≤ (e : Int) ∧ (e : Int) < 7 := by omega
  have c2 : 0 ≤ (w : Int) ∧ (w : Int) < 7 := by omega
  have c6 : 0 ≤ ((7 * e + w : Nat) : Int) ∧ ((7 * e + w : Nat) : Int) < 49 := by omega
  have c5 : w32 (w32 ((e : Int) * 7) + (w : Int)) = ((7 * e + w : Nat) : Int) := w32_7 (by omega) (by omega)
  unfold f_Odds_powerOf
  rw [x_isWithin, if_pos c1, xbR_s, if_neg (by decide), x_isWithin, if_pos c2, xbR_s, if_neg (by decide), c5, if_pos c6, Int.toNat_natCast]
theorem w32_7l {a b : Nat} (ha : a < 100) (hb : b < 100) : w32 (w32 (7 * (a : Int)) + (b : Int)) = ((7 * a + b : Nat) : Int) := by
  have e1 : w32 (7 * (a : Int)) = ((7 * a : Nat) : Int) := (w32_o (by omega) (by omega)).trans (by omega)
  rw [e1]
  exact (w32_o (by omega) (by omega)).trans (by omega)
/-- both tables of powers -/
def PTab (s M : xSt) : Prop := ∃ (C : Nat) (E : Nat → Int), 1 ≤ C ∧ (∀ i : Nat, i < 49 → s 92 i = (C : Int) * E i) ∧ ∀ i : Nat, i < 49 → M 123 i = E i
theorem PTab.eq {s M : xSt} (h : PTab s M) {i j : Nat} (hi : i < 49) (hj : j < 49) : s 92 i = s 92 j ↔ M 123 i = M 123 j := by
  obtain ⟨C, E, c1, c2, c3⟩ := h
  rw [c2 i hi, c2 j hj, c3 i hi, c3 j hj]
  exact ⟨fun z => Int.eq_of_mul_eq_mul_left (by omega) z, fun z => by rw [z]⟩
theorem PTab.z {s M : xSt} (h : PTab s M) {i : Nat} (hi : i < 49) : s 92 i = 0 ↔ M 123 i = 0 := by
  obtain ⟨C, E, c1, c2, c3⟩ := h
  rw [c2 i hi, c3 i hi]
  constructor
  · intro z
    rcases Int.mul_eq_zero.mp z with q | q
    · omega
    · exact q
  · intro z
    rw [z, Int.mul_zero]
theorem like_lock {s M : xSt} (h : PTab s M) {a b : Nat} (ha : a < 7) (hb : b < 7) : ∀ (j fu fu2 l : Nat), l + j = 7 → j < fu → j < fu2 → ∃ v, f_Odds_areLike_2 fu (a : Int) (b : Int) (l : Int) s = some v ∧ f_M_areLike_2 fu2 (a : Int) (b : Int) (l : Int) M = some v ∧ (v = 0 ∨ v = 1) := by
  intro j
  induction j with
  | zero =>
    intro fu fu2 l g1 g2 g3
    obtain ⟨fu, rfl⟩ : ∃ n2, fu = n2 + 1 := ⟨fu - 1, by omega⟩
    obtain ⟨fu2, rfl⟩ : ∃ n2, fu2 = n2 + 1 := ⟨fu2 - 1, by omega⟩
    obtain rfl : l = 7 := by omega
    exact ⟨1, by rw [f_Odds_areLike_2.eq_2, if_pos (by decide)], by rw [f_M_areLike_2.eq_2, if_neg (by decide)], Or.inr rfl⟩
  | succ j ih =>
    intro fu fu2 l g1 g2 g3
    obtain ⟨fu, rfl⟩ : ∃ n2, fu = n2 + 1 := ⟨fu - 1, by omega⟩
    obtain ⟨fu2, rfl⟩ : ∃ n2, fu2 = n2 + 1 := ⟨fu2 - 1, by omega⟩
    have l7 : l < 7 := by omega
    have c1 : ¬ 6 < (l : Int) := by omega
    have c2 : (l : Int) < 7 := by omega
    have l1 : l < 100000 := by omega
    have ia : 7 * a + l < 49 := by omega
    have ib : 7 * b + l < 49 := by omega
    have ja : 0 ≤ ((7 * a + l : Nat) : Int) ∧ ((7 * a + l : Nat) : Int) < 49 := by omega
    have jb : 0 ≤ ((7 * b + l : Nat) : Int) ∧ ((7 * b + l : Nat) : Int) < 49 := by omega
    have ka := w32_7l (a := a) (b := l) (by omega) (by omega)
    have kb := w32_7l (a := b) (b := l) (by omega) (by omega)
    have eqv := h.eq ia ib
    by_cases hz : s 92 (7 * a + l) = s 92 (7 * b + l)
    · obtain ⟨v, v1, v2, v3⟩ := ih fu fu2 (l + 1) (by omega) (by omega) (by omega)
      refine ⟨v, ?_, ?_, v3⟩
      · rw [f_Odds_areLike_2.eq_2, if_neg c1, x_powerOf ha l7, xbR_s, x_powerOf hb l7, xbR_s, if_pos (xlc_z.mpr hz), w32_n1 l1, xlet_s, v1]
      · rw [f_M_areLike_2.eq_2, if_pos c2, ka, if_pos ja, kb, if_pos jb, Int.toNat_natCast, Int.toNat_natCast, if_pos (xlc_z.mpr (eqv.mp hz)), w32_n1 l1, xlet_s, v2]
    · refine ⟨0, ?_, ?_, Or.inl rfl⟩
      · rw [f_Odds_areLike_2.eq_2, if_neg c1, x_powerOf ha l7, xbR_s, x_powerOf hb l7, xbR_s, if_neg (fun z => hz (xlc_z.mp z))]
      · rw [f_M_areLike_2.eq_2, if_pos c2, ka, if_pos ja, kb, if_pos jb, Int.toNat_natCast, Int.toNat_natCast, if_neg (fun z => hz (eqv.mpr (xlc_z.mp z)))]
theorem comes_lock {s M : xSt} (h : PTab s M) {a : Nat} (ha : a < 7) : ∀ (j fu fu2 l : Nat), l + j = 7 → j < fu → j < fu2 → ∃ v, f_Odds_comes_2 fu (a : Int) (l : Int) s = some v ∧ f_M_comes_2 fu2 (a : Int) (l : Int) M = some v ∧ (v = 0 ∨ v = 1) := by
  intro j
  induction j with
  | zero =>
    intro fu fu2 l g1 g2 g3
    obtain ⟨fu, rfl⟩ : ∃ n2, fu = n2 + 1 := ⟨fu - 1, by omega⟩
    obtain ⟨fu2, rfl⟩ : ∃ n2, fu2 = n2 + 1 := ⟨fu2 - 1, by omega⟩
    obtain rfl : l = 7 := by omega
    exact ⟨0, by rw [f_Odds_comes_2.eq_2, if_pos (by decide)], by rw [f_M_comes_2.eq_2, if_neg (by decide)], Or.inl rfl⟩
  | succ j ih =>
    intro fu fu2 l g1 g2 g3
    obtain ⟨fu, rfl⟩ : ∃ n2, fu = n2 + 1 := ⟨fu - 1, by omega⟩
    obtain ⟨fu2, rfl⟩ : ∃ n2, fu2 = n2 + 1 := ⟨fu2 - 1, by omega⟩
    have l7 : l < 7 := by omega
    have c1 : ¬ 6 < (l : Int) := by omega
    have c2 : (l : Int) < 7 := by omega
    have l1 : l < 100000 := by omega
    have ia : 7 * a + l < 49 := by omega
    have ja : 0 ≤ ((7 * a + l : Nat) : Int) ∧ ((7 * a + l : Nat) : Int) < 49 := by omega
    have ka := w32_7l (a := a) (b := l) (by omega) (by omega)
    have eqv := h.z ia
    by_cases hz : s 92 (7 * a + l) = 0
    · obtain ⟨v, v1, v2, v3⟩ := ih fu fu2 (l + 1) (by omega) (by omega) (by omega)
      refine ⟨v, ?_, ?_, v3⟩
      · rw [f_Odds_comes_2.eq_2, if_neg c1, x_powerOf ha l7, xbR_s, if_pos (xlc_z.mpr hz), w32_n1 l1, xlet_s, v1]
      · rw [f_M_comes_2.eq_2, if_pos c2, ka, if_pos ja, Int.toNat_natCast, if_pos (xlc_z.mpr (eqv.mp hz)), w32_n1 l1, xlet_s, v2]
    · refine ⟨1, ?_, ?_, Or.inr rfl⟩
      · rw [f_Odds_comes_2.eq_2, if_neg c1, x_powerOf ha l7, xbR_s, if_neg (fun z => hz (xlc_z.mp z))]
      · rw [f_M_comes_2.eq_2, if_pos c2, ka, if_pos ja, Int.toNat_natCast, if_neg (fun z => hz (eqv.mpr (xlc_z.mp z)))]
theorem PLk.tab {σ s L : xSt} {al : Nat} {nP : Nat → Int} (h : PLk σ al nP) (hs : ∀ i : Nat, i < 49 → s 92 i = nP i ∧ -150094635296999121 ≤ nP i ∧ nP i ≤ 150094635296999121) (hL : Inv0 L) (h22 : L 111 22 ≠ 0) (e : ∀ a k, a ≤ 86 → L a k = σ a k) : ∃ M, f_M_layPowers L = some M ∧ PTab s M := by
  obtain ⟨M, C, B, E, d1, d2, d3, d4, d5, d6⟩ := h L hL h22 e
  exact ⟨M, d1, C, E, d4, fun i hi => by rw [(hs i hi).1, d6 i hi], d3⟩
theorem sim_like {n : Nat} : ∀ p1 p2 : Int, in32 p1 → in32 p2 → SimW (InvN (n + 1)) (InvN n) (f_X_like p1 p2) (f_M_like p1 p2) := by
  intro p1 p2 _ _
  refine simW0 (fun σ h => ?_)
  have he := h.ends
  have no : ¬ ((0 ≤ p1 ∧ p1 < σ 7 2) ∧ (0 ≤ p2 ∧ p2 < σ 7 2) ∧ 0 < σ 16 0) → ∃ r σ1 σ2, f_X_like p1 p2 σ = some (r, σ1) ∧ f_M_like p1 p2 σ1 = some (r, σ2) ∧ Inv0 σ2 ∧ σ2 0 7 = σ 0 7 := fun hn => by
    refine ⟨-1, σ, upS σ 111 0 0, ?_, ?_, inv_thr h, by rw [upS_ne (by decide)]⟩
    · unfold f_X_like
      rw [x_hasEnd (by omega)]
      by_cases h1 : 0 ≤ p1 ∧ p1 < σ 7 2
      · rw [if_pos h1, xbR_s, if_neg (by decide), x_hasEnd (by omega)]
        by_cases h2 : 0 ≤ p2 ∧ p2 < σ 7 2
        · rw [if_pos h2, xbR_s, if_neg (by decide)]
          unfold f_Way_isTold
          rw [if_neg (fun z => hn ⟨h1, h2, z⟩), xbR_s, if_pos rfl]
        · rw [if_neg h2, xbR_s, if_pos rfl]
      · rw [if_neg h1, xbR_s, if_pos rfl]
    · unfold f_M_like
      rw [xlet_s, m_isEnd, upS_ne (by decide), ← he.1]
      by_cases h1 : 0 ≤ p1 ∧ p1 < σ 7 2
      · rw [if_pos h1, xbR_s, if_neg (by decide), m_isEnd, upS_ne (by decide), ← he.1]
        by_cases h2 : 0 ≤ p2 ∧ p2 < σ 7 2
        · rw [if_pos h2, xbR_s, if_neg (by decide), m_hasWay, upS_ne (by decide), ← h.nodes.1, if_neg (fun z => hn ⟨h1, h2, z⟩), xbR_s, if_pos rfl]
        · rw [if_neg h2, xbR_s, if_pos rfl]
      · rw [if_neg h1, xbR_s, if_pos rfl]
  by_cases hk : (0 ≤ p1 ∧ p1 < σ 7 2) ∧ (0 ≤ p2 ∧ p2 < σ 7 2) ∧ 0 < σ 16 0
  · obtain ⟨h1, h2, h3⟩ := hk
    obtain ⟨a, ha⟩ : ∃ n : Nat, p1 = (n : Int) := ⟨p1.toNat, by omega⟩
    obtain ⟨b, hb⟩ : ∃ n : Nat, p2 = (n : Int) := ⟨p2.toNat, by omega⟩
    have a7 : a < 7 := by omega
    have b7 : b < 7 := by omega
    obtain ⟨s, al, nP, t1, t2, t3, t4, t5, t6⟩ := tp_ok h h3
    have Fs : Fr s_sc σ s := (fr_Odds_tellPolynomials t1).mono rfl
    have es := e86 Fs
    have is : Inv0 s := h.fr Fs rfl
    have h22 : σ 111 22 ≠ 0 := fun z => by have := h.2.2.1.2 z; omega
    obtain ⟨M, m1, m2⟩ := t6.tab t5 (inv_thr (v := 0) is) (by rw [upS_nk (by decide), Fs 111 22 rfl]; exact h22) (fun a k ha => by rw [upS_ne (by omega)]; exact es a k ha)
    obtain ⟨v, v1, v2, v3⟩ := like_lock m2 a7 b7 7 1000000 1000000 0 (by omega) (by omega) (by omega)
    rw [c0n, ← ha, ← hb] at v1 v2
    have v1 : f_Odds_areLike p1 p2 s = some v := v1
    have v2 : f_M_areLike p1 p2 M = some v := v2
    have FM : Fr s_sc (upS s 111 0 0) M := (fr_M_layPowers m1).mono rfl
    refine ⟨v, s, M, ?_, ?_, (inv_thr is).fr FM rfl, by rw [FM 0 7 rfl, upS_ne (by decide), Fs 0 7 rfl]⟩
    · unfold f_X_like
      rw [x_hasEnd (by omega), if_pos h1, xbR_s, if_neg (by decide), x_hasEnd (by omega), if_pos h2, xbR_s, if_neg (by decide)]
      unfold f_Way_isTold
      rw [if_pos h3, xbR_s, if_neg (by decide), t1, xbR_s, v1, xbR_s]
      rcases v3 with rfl | rfl
      · rw [if_pos rfl]
      · rw [if_neg (by decide)]
    · have e72 : (upS s 111 0 0) 113 1 = σ 7 2 := by rw [upS_ne (by decide), ← is.ends.1, es 7 2 (by decide)]
      have e16 : (upS s 111 0 0) 113 41 = σ 16 0 := by rw [upS_ne (by decide), ← is.nodes.1, es 16 0 (by decide)]
      unfold f_M_like
      rw [xlet_s, m_isEnd, e72, if_pos h1, xbR_s, if_neg (by decide), m_isEnd, e72, if_pos h2, xbR_s, if_neg (by decide), m_hasWay, e16, if_pos h3, xbR_s, if_neg (by decide), m1, xbR_s, v2, xbR_s]
      rcases v3 with rfl | rfl
      · rw [if_pos rfl]
      · rw [if_neg (by decide)]
  · exact no hk
