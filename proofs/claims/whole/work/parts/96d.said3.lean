/-! said: the call -/
theorem said_one {s M : xSt} (h : Inv0 s) (hM : ∀ q, M 113 q = s 113 q) (hP : PTab s M) (h22 : 0 < s 22 0) {e : Nat} (he : (e : Int) < s 7 2) : ∃ b : Nat, (b = 0 ∨ b = 1) ∧ f_Sentence_holdsFor (e : Int) s = some (b : Int) ∧ f_M_holds 60 (M 113 683) (e : Int) M = some (b : Int) := by
  obtain ⟨-, -, hs⟩ := h.2.2.2.1.1
  rcases hs with ⟨z, -⟩ | ⟨-, a1, a2, a3, a4, a5⟩
  · omega
  obtain ⟨hi, hhi⟩ : ∃ hi : Nat, s 22 1 = (hi : Int) := ⟨(s 22 1).toNat, by omega⟩
  rw [hhi, Int.toNat_natCast] at a5
  obtain ⟨g0, b, g1, g2, g3⟩ := sen_lock h hM hP he 40 0 hi a5 (by omega) (by omega)
  have a4 : s 113 683 = s 22 1 - 1 := a4
  refine ⟨b, g1, ?_, ?_⟩
  · have q := g3 0 0 (1000000 - hi) (by decide) (by omega)
    rw [show 1000000 - hi + (hi - 0) = 1000000 by omega, c0n] at q
    have q : f_Sentence_holdsFor (e : Int) s = _ := q
    obtain ⟨n2, hn2⟩ : ∃ n2, 1000000 - hi = n2 + 1 := ⟨999999 - hi, by omega⟩
    rw [q, hn2, f_Sentence_holdsFor_6.eq_2, hhi, if_neg (Int.lt_irrefl _)]
    unfold f_Sentence_holdsFor_128
    rw [xand_1]
    rcases g1 with rfl | rfl <;> rfl
  · have q := g2 60 (by decide)
    rw [hM, a4, hhi]
    exact q
theorem said_lock {s M : xSt} (h : Inv0 s) (hM : ∀ q, M 113 q = s 113 q) (hP : PTab s M) (h22 : 0 < s 22 0) {E : Nat} (hE : s 7 2 = (E : Int)) (hE2 : M 113 1 = (E : Int)) {p1 : Int} : ∀ (j fu fu2 c e : Nat), e + j = E → j < fu → j < fu2 → c ≤ e → ∃ v, f_X_said_58 fu p1 (c : Int) (e : Int) s = some (v, s) ∧ f_M_said_33 fu2 p1 (c : Int) (e : Int) M = some (v, M) ∧ (p1 < -1 → v = -1) := by
  have h6 := h.ends
  intro j
  induction j with
  | zero =>
    intro fu fu2 c e g1 g2 g3 g4
    obtain ⟨fu, rfl⟩ : ∃ n2, fu = n2 + 1 := ⟨fu - 1, by omega⟩
    obtain ⟨fu2, rfl⟩ : ∃ n2, fu2 = n2 + 1 := ⟨fu2 - 1, by omega⟩
    obtain rfl : e = E := by omega
    by_cases hz : p1 = -1
    · exact ⟨(c : Int), by rw [f_X_said_58.eq_2, hE, if_neg (Int.lt_irrefl _), if_pos hz], by rw [f_M_said_33.eq_2, m_ends_, hE2, xbR_s, if_neg (Int.lt_irrefl _), if_pos hz], fun z => by omega⟩
    · exact ⟨-1, by rw [f_X_said_58.eq_2, hE, if_neg (Int.lt_irrefl _), if_neg hz], by rw [f_M_said_33.eq_2, m_ends_, hE2, xbR_s, if_neg (Int.lt_irrefl _), if_neg hz], fun _ => rfl⟩
  | succ j ih =>
    intro fu fu2 c e g1 g2 g3 g4
    obtain ⟨fu, rfl⟩ : ∃ n2, fu = n2 + 1 := ⟨fu - 1, by omega⟩
    obtain ⟨fu2, rfl⟩ : ∃ n2, fu2 = n2 + 1 := ⟨fu2 - 1, by omega⟩
    have e1 : e < 100000 := by omega
    have c1 : c < 100000 := by omega
    have hlt : (e : Int) < (E : Int) := by omega
    obtain ⟨b, b0, b1, b2⟩ := said_one h hM hP h22 (e := e) (by omega)
    rcases b0 with rfl | rfl
    · obtain ⟨v, v1, v2, v3⟩ := ih fu fu2 c (e + 1) (by omega) (by omega) (by omega) (by omega)
      exact ⟨v, by rw [f_X_said_58.eq_2, hE, if_pos hlt, b1, xbR_s, if_pos c0n, w32_n1 e1, xlet_s, v1], by rw [f_M_said_33.eq_2, m_ends_, hE2, xbR_s, if_pos hlt, b2, xbR_s, if_pos c0n, w32_n1 e1, xlet_s, v2], v3⟩
    · by_cases hz : (c : Int) = p1
      · exact ⟨(e : Int), by rw [f_X_said_58.eq_2, hE, if_pos hlt, b1, xbR_s, if_neg (by decide), if_pos hz], by rw [f_M_said_33.eq_2, m_ends_, hE2, xbR_s, if_pos hlt, b2, xbR_s, if_neg (by decide), if_pos hz], fun z => by omega⟩
      · obtain ⟨v, v1, v2, v3⟩ := ih fu fu2 (c + 1) (e + 1) (by omega) (by omega) (by omega) (by omega)
        exact ⟨v, by rw [f_X_said_58.eq_2, hE, if_pos hlt, b1, xbR_s, if_neg (by decide), if_neg hz, w32_n1 c1, xlet_s, w32_n1 e1, xlet_s, v1], by rw [f_M_said_33.eq_2, m_ends_, hE2, xbR_s, if_pos hlt, b2, xbR_s, if_neg (by decide), if_neg hz, w32_n1 c1, xlet_s, w32_n1 e1, xlet_s, v2], v3⟩
theorem sim_said {n : Nat} : ∀ p1 : Int, in32 p1 → SimW (InvN (n + 1)) (InvN n) (f_X_said p1) (f_M_said p1) := by
  intro p1 _
  refine simW0 (fun σ h => ?_)
  have he := h.ends
  have hs := h.2.2.2.1.1
  obtain ⟨s1, s2, s3⟩ := hs
  have s3 : σ 22 0 = 0 ∧ σ 113 682 = 0 ∨ 0 < σ 22 0 ∧ σ 113 682 = 1 := by
    rcases s3 with z | ⟨z1, z2, -⟩
    · exact Or.inl z
    · exact Or.inr ⟨z1, z2⟩
  by_cases hk : 0 < σ 22 0 ∧ 0 < σ 16 0
  · obtain ⟨h2, h3⟩ := hk
    have h682 : σ 113 682 = 1 := by omega
    obtain ⟨E, hE⟩ : ∃ n : Nat, σ 7 2 = (n : Int) := ⟨(σ 7 2).toNat, by omega⟩
    obtain ⟨s, al, nP, t1, t2, t3, t4, t5, t6⟩ := tp_ok h h3
    have Fs : Fr s_sc σ s := (fr_Odds_tellPolynomials t1).mono rfl
    have es := e86 Fs
    have is : Inv0 s := h.fr Fs rfl
    have h22 : σ 111 22 ≠ 0 := fun z => by have := h.2.2.1.2 z; omega
    have core : ∀ w : xSt, Inv0 w → Fr s_sc σ w → ∃ (v : Int) (M : xSt), f_M_said p1 w = some (v, M) ∧ Inv0 M ∧ M 0 7 = σ 0 7 ∧ f_X_said_58 1000000 p1 0 0 s = some (v, s) ∧ (p1 < -1 → v = -1) := fun w iw Fw => by
      have ew := e86 Fw
      obtain ⟨M, m1, m2⟩ := t6.tab t5 (inv_thr (v := 0) iw) (by rw [upS_nk (by decide), Fw 111 22 rfl]; exact h22) (fun a k ha => by rw [upS_ne (by omega)]; exact ew a k ha)
      have FM : Fr s_sc (upS w 111 0 0) M := (fr_M_layPowers m1).mono rfl
      have hM : ∀ q, M 113 q = s 113 q := fun q => by rw [FM 113 q rfl, upS_ne (by decide), Fw 113 q rfl, Fs 113 q rfl]
      have e1 : M 113 1 = (E : Int) := by rw [FM 113 1 rfl, upS_ne (by decide), Fw 113 1 rfl, ← he.1, hE]
      obtain ⟨v, v1, v2, v3⟩ := said_lock is hM m2 (by rw [es 22 0 (by decide)]; exact h2) (E := E) (by rw [es 7 2 (by decide), hE]) e1 (p1 := p1) E 1000000 1000000 0 0 (by omega) (by omega) (by omega) (Nat.le_refl 0)
      rw [c0n] at v1 v2
      refine ⟨v, M, ?_, (inv_thr iw).fr FM rfl, by rw [FM 0 7 rfl, upS_ne (by decide), Fw 0 7 rfl], v1, v3⟩
      have e682 : (upS w 111 0 0) 113 682 = 1 := by rw [upS_ne (by decide), Fw 113 682 rfl, h682]
      have e16 : (upS w 111 0 0) 113 41 = σ 16 0 := by rw [upS_ne (by decide), Fw 113 41 rfl, ← h.nodes.1]
      unfold f_M_said
      rw [xlet_s, e682, if_neg (by decide), m_hasWay, e16, if_pos h3, xbR_s, if_neg (by decide), m1, xbR_s, v2]
    by_cases hp : p1 < -1
    · obtain ⟨v, M, c1, c2, c3, -, c5⟩ := core σ h Fr.rf
      refine ⟨-1, σ, M, ?_, ?_, c2, c3⟩
      · unfold f_X_said
        rw [if_pos hp]
      · rw [c1, c5 hp]
    · obtain ⟨v, M, c1, c2, c3, c4, -⟩ := core s is Fs
      refine ⟨v, s, M, ?_, c1, c2, c3⟩
      unfold f_X_said f_Sentence_isTold f_Way_isTold
      rw [if_neg hp, if_pos h2, xbR_s, if_neg (by decide), if_pos h3, xbR_s, if_neg (by decide), t1, xbR_s, c4]
  · refine ⟨-1, σ, upS σ 111 0 0, ?_, ?_, inv_thr h, by rw [upS_ne (by decide)]⟩
    · unfold f_X_said f_Sentence_isTold f_Way_isTold
      by_cases hp : p1 < -1
      · rw [if_pos hp]
      · rw [if_neg hp]
        by_cases h2 : 0 < σ 22 0
        · rw [if_pos h2, xbR_s, if_neg (by decide), if_neg (fun z => hk ⟨h2, z⟩), xbR_s, if_pos rfl]
        · rw [if_neg h2, xbR_s, if_pos rfl]
    · unfold f_M_said
      rw [xlet_s, upS_ne (by decide)]
      by_cases h2 : 0 < σ 22 0
      · rw [if_neg (by omega), m_hasWay, upS_ne (by decide), ← h.nodes.1, if_neg (fun z => hk ⟨h2, z⟩), xbR_s, if_pos rfl]
      · rw [if_pos (by omega)]
