/-! said: facts, the SENTENCE -/
theorem knots_lock {s M : xSt} (h : Inv0 s) (hM : ∀ q, M 113 q = s 113 q) {e n : Nat} (hn : s 16 0 = (n : Int)) : ∀ (j fu fu2 c k : Nat), k + j = n → j < fu → j < fu2 → c ≤ k → ∃ v, f_Way_knotsOf_4 fu (e : Int) (c : Int) (k : Int) s = some v ∧ f_M_knots_4 fu2 (e : Int) (c : Int) (k : Int) M = some v := by
  have h80 := h.nodes
  have e41 : M 113 41 = (n : Int) := by rw [hM, ← h80.1, hn]
  intro j
  induction j with
  | zero =>
    intro fu fu2 c k g1 g2 g3 g4
    obtain ⟨fu, rfl⟩ : ∃ n2, fu = n2 + 1 := ⟨fu - 1, by omega⟩
    obtain ⟨fu2, rfl⟩ : ∃ n2, fu2 = n2 + 1 := ⟨fu2 - 1, by omega⟩
    obtain rfl : k = n := by omega
    exact ⟨(c : Int), by rw [f_Way_knotsOf_4.eq_2, hn, if_neg (Int.lt_irrefl _)], by rw [f_M_knots_4.eq_2, e41, if_neg (Int.lt_irrefl _)]⟩
  | succ j ih =>
    intro fu fu2 c k g1 g2 g3 g4
    obtain ⟨fu, rfl⟩ : ∃ n2, fu = n2 + 1 := ⟨fu - 1, by omega⟩
    obtain ⟨fu2, rfl⟩ : ∃ n2, fu2 = n2 + 1 := ⟨fu2 - 1, by omega⟩
    have hk : (k : Int) < (n : Int) := by omega
    have bk : 0 ≤ (k : Int) ∧ (k : Int) < s 16 0 := by omega
    have n80 : s 16 0 ≤ 80 := by omega
    have k1 : k < 100000 := by omega
    have c1 : c < 100000 := by omega
    have nd := h.nd (p := (k : Int)) (by omega) (by omega)
    rw [Int.toNat_natCast] at nd
    have so : f_M_sortOf (k : Int) M = some (s 17 k) := by rw [m_sortOf (by omega) (by omega), Int.toNat_natCast, hM, ← nd.1]
    have wof : f_M_whichOf (k : Int) M = some (s 18 k) := by rw [m_whichOf (by omega) (by omega), Int.toNat_natCast, hM, ← nd.2.1]
    have hso : f_Way_sortAt (k : Int) s = some (s 17 k) := by rw [x_sortAt n80, if_pos bk, Int.toNat_natCast]
    have hwh : f_Way_whichAt (k : Int) s = some (s 18 k) := by rw [x_whichAt n80, if_pos bk, Int.toNat_natCast]
    have hend : f_Way_endAt (k : Int) s = some (if s 17 k = 0 then s 18 k else -1) := by
      unfold f_Way_endAt
      rw [hso, xbR_s]
      by_cases hz : s 17 k = 0
      · rw [if_pos hz, if_pos hz, hwh, xbR_s]
      · rw [if_neg hz, if_neg hz]
    by_cases hz : s 17 k = 0
    · rw [if_pos hz] at hend
      by_cases he : s 18 k = (e : Int)
      · obtain ⟨v, v1, v2⟩ := ih fu fu2 (c + 1) (k + 1) (by omega) (by omega) (by omega) (by omega)
        exact ⟨v, by rw [f_Way_knotsOf_4.eq_2, hn, if_pos hk, hend, xbR_s, if_pos he, w32_n1 c1, xlet_s, w32_n1 k1, xlet_s, v1], by rw [f_M_knots_4.eq_2, e41, if_pos hk, so, xbR_s, if_pos hz, wof, xbR_s, if_pos he, w32_n1 c1, xlet_s, w32_n1 k1, xlet_s, v2]⟩
      · obtain ⟨v, v1, v2⟩ := ih fu fu2 c (k + 1) (by omega) (by omega) (by omega) (by omega)
        exact ⟨v, by rw [f_Way_knotsOf_4.eq_2, hn, if_pos hk, hend, xbR_s, if_neg he, w32_n1 k1, xlet_s, v1], by rw [f_M_knots_4.eq_2, e41, if_pos hk, so, xbR_s, if_pos hz, wof, xbR_s, if_neg he, w32_n1 k1, xlet_s, v2]⟩
    · rw [if_neg hz] at hend
      obtain ⟨v, v1, v2⟩ := ih fu fu2 c (k + 1) (by omega) (by omega) (by omega) (by omega)
      exact ⟨v, by rw [f_Way_knotsOf_4.eq_2, hn, if_pos hk, hend, xbR_s, if_neg (by omega), w32_n1 k1, xlet_s, v1], by rw [f_M_knots_4.eq_2, e41, if_pos hk, so, xbR_s, if_neg hz, w32_n1 k1, xlet_s, v2]⟩
theorem xnb_b {v : Int} (h : v = 0 ∨ v = 1) : xnb v = v := by
  rcases h with rfl | rfl <;> rfl
def Tru (s M : xSt) (e i : Nat) : Prop := ∃ v : Nat, (v = 0 ∨ v = 1) ∧ f_Sentence_isFact (i : Int) (e : Int) s = some (v : Int) ∧ ∀ q, f0_M_holds q (i : Int) (e : Int) M = some (v : Int)
theorem sized_lock {s M : xSt} (hM : ∀ q, M 113 q = s 113 q) {i : Nat} (hi : i < 40) {x a b : Int} (ha : a = s 113 (687 + 4 * i)) (ha2 : a = 60 ∨ a = 61 ∨ a = 62) : ∃ v : Nat, (v = 0 ∨ v = 1) ∧ f_Sentence_isSized x a b s = some (v : Int) ∧ ∀ q, f_M_holds_216 q ((684 + 4 * i : Nat) : Int) b x M = some (v : Int) := by
  have k4 : w32 (((684 + 4 * i : Nat) : Int) + 3) = ((687 + 4 * i : Nat) : Int) := (w32_o (by omega) (by omega)).trans (by omega)
  have b4 : 0 ≤ ((687 + 4 * i : Nat) : Int) ∧ ((687 + 4 * i : Nat) : Int) < 924 := by omega
  have hd : ∀ q, f_M_holds_216 q ((684 + 4 * i : Nat) : Int) b x M = (if a = 60 then (if x < b then (some 1) else (some 0)) else (if a = 61 then (if x = b then (some 1) else (some 0)) else (if b < x then (some 1) else (some 0)))) := fun q => by
    unfold f_M_holds_216
    rw [k4, if_pos b4, if_pos b4, Int.toNat_natCast, hM, ← ha]
  unfold f_Sentence_isSized
  rcases ha2 with h | h | h
  · by_cases hz : x < b
    · exact ⟨1, Or.inr rfl, by rw [if_pos h, if_pos hz]; rfl, fun q => by rw [hd, if_pos h, if_pos hz]; rfl⟩
    · exact ⟨0, Or.inl rfl, by rw [if_pos h, if_neg hz]; rfl, fun q => by rw [hd, if_pos h, if_neg hz]; rfl⟩
  · have h0 : ¬ a = 60 := by omega
    by_cases hz : x = b
    · exact ⟨1, Or.inr rfl, by rw [if_neg h0, if_pos h, if_pos hz]; rfl, fun q => by rw [hd, if_neg h0, if_pos h, if_pos hz]; rfl⟩
    · exact ⟨0, Or.inl rfl, by rw [if_neg h0, if_pos h, if_neg hz]; rfl, fun q => by rw [hd, if_neg h0, if_pos h, if_neg hz]; rfl⟩
  · have h0 : ¬ a = 60 := by omega
    have h1 : ¬ a = 61 := by omega
    by_cases hz : b < x
    · exact ⟨1, Or.inr rfl, by rw [if_neg h0, if_neg h1, if_pos hz]; rfl, fun q => by rw [hd, if_neg h0, if_neg h1, if_pos hz]; rfl⟩
    · exact ⟨0, Or.inl rfl, by rw [if_neg h0, if_neg h1, if_neg hz]; rfl, fun q => by rw [hd, if_neg h0, if_neg h1, if_neg hz]; rfl⟩
theorem holds_hd {M s : xSt} (hM : ∀ q, M 113 q = s 113 q) {i : Nat} (hi : i < 40) {e : Int} {q : Int → Int → xSt → Option Int} : f0_M_holds q (i : Int) e M = (if s 113 (684 + 4 * i) = 1 then (xbR (q (s 113 (685 + 4 * i)) e M) fun r4 => if r4 = 0 then (some 1) else (some 0))
  else if s 113 (684 + 4 * i) = 2 then (xbR (q (s 113 (685 + 4 * i)) e M) fun r5 => if r5 = 0 then (some 0) else (xbR (q (s 113 (686 + 4 * i)) e M) fun r6 => if r6 = 0 then (some 0) else (some 1)))
  else if s 113 (684 + 4 * i) = 3 then (xbR (q (s 113 (685 + 4 * i)) e M) fun r7 => if r7 = 0 then (xbR (q (s 113 (686 + 4 * i)) e M) fun r8 => if r8 = 0 then (some 0) else (some 1)) else (some 1))
  else if s 113 (684 + 4 * i) = 59 then (xbR (f_M_areLike e (s 113 (685 + 4 * i)) M) fun r9 => some (xnb r9))
  else if s 113 (684 + 4 * i) = 60 then (xbR (f_M_comes e M) fun r10 => some (xnb r10))
  else if s 113 (684 + 4 * i) = 61 then (if 0 ≤ w32 ((w32 (28 + (w32 (2 * e)))) + 1) ∧ w32 ((w32 (28 + (w32 (2 * e)))) + 1) < 924 then (if 0 < M 113 (w32 ((w32 (28 + (w32 (2 * e)))) + 1)).toNat then (some 1) else (some 0)) else none)
  else if s 113 (684 + 4 * i) = 62 then (f_M_holds_216 q ((684 + 4 * i : Nat) : Int) (s 113 (686 + 4 * i)) e M) else (xbR (f_M_knots e M) fun r11 => f_M_holds_216 q ((684 + 4 * i : Nat) : Int) (s 113 (686 + 4 * i)) r11 M)) := by
  have k0 : w32 (4 * (i : Int)) = ((4 * i : Nat) : Int) := (w32_o (by omega) (by omega)).trans (by omega)
  have k1 : w32 (684 + ((4 * i : Nat) : Int)) = ((684 + 4 * i : Nat) : Int) := (w32_o (by omega) (by omega)).trans (by omega)
  have k2 : w32 (((684 + 4 * i : Nat) : Int) + 1) = ((685 + 4 * i : Nat) : Int) := (w32_o (by omega) (by omega)).trans (by omega)
  have k3 : w32 (((684 + 4 * i : Nat) : Int) + 2) = ((686 + 4 * i : Nat) : Int) := (w32_o (by omega) (by omega)).trans (by omega)
  have b1 : 0 ≤ ((684 + 4 * i : Nat) : Int) ∧ ((684 + 4 * i : Nat) : Int) < 924 := by omega
  have b2 : 0 ≤ ((685 + 4 * i : Nat) : Int) ∧ ((685 + 4 * i : Nat) : Int) < 924 := by omega
  have b3 : 0 ≤ ((686 + 4 * i : Nat) : Int) ∧ ((686 + 4 * i : Nat) : Int) < 924 := by omega
  unfold f0_M_holds
  rw [k0, k1, xlet_s, k2, if_pos b2, Int.toNat_natCast, hM (685 + 4 * i), xlet_s, k3, if_pos b3, Int.toNat_natCast, hM (686 + 4 * i), xlet_s, if_pos b1, if_pos b1, Int.toNat_natCast, hM (684 + 4 * i)]
theorem fact_lock {s M : xSt} (h : Inv0 s) (hM : ∀ q, M 113 q = s 113 q) (hP : PTab s M) {e i : Nat} (he : (e : Int) < s 7 2) (hi : i < 40)
    (hf : s 23 i = 3 ∧ s 113 (684 + 4 * i) = 59 ∧ s 25 i = s 113 (685 + 4 * i) ∧ 0 ≤ s 25 i ∧ s 25 i < s 7 2 ∨ s 23 i = 4 ∧ s 113 (684 + 4 * i) = 60 ∨ s 23 i = 5 ∧ s 113 (684 + 4 * i) = 61 ∨
       (s 23 i = 6 ∧ s 113 (684 + 4 * i) = 62 ∨ s 23 i = 7 ∧ s 113 (684 + 4 * i) = 63) ∧ s 24 i = s 113 (687 + 4 * i) ∧ s 25 i = s 113 (686 + 4 * i) ∧ (s 24 i = 60 ∨ s 24 i = 61 ∨ s 24 i = 62) ∧ 0 ≤ s 25 i ∧ s 25 i ≤ 999) : Tru s M e i := by
  have hte := h.ends
  have e7 : e < 7 := by omega
  have b40 : 0 ≤ (i : Int) ∧ (i : Int) < 40 := by omega
  have hX : ∀ k : Int, s 23 i = k → f_Sentence_isFact (i : Int) (e : Int) s = (if k = 3 then (xbR (f_Odds_areLike (e : Int) (s 25 i) s) fun r2 => some (xnb r2)) else if k = 4 then (xbR (f_Odds_comes (e : Int) s) fun r3 => some (xnb r3)) else if k = 5 then (xbR (f_Table_hasShare (e : Int) s) fun r4 => some (xnb r4)) else if k = 6 then (xbR (f_Sentence_isSized (e : Int) (s 24 i) (s 25 i) s) fun r5 => some (xnb r5)) else (xbR (f_Way_knotsOf (e : Int) s) fun r6 => xbR (f_Sentence_isSized r6 (s 24 i) (s 25 i) s) fun r7 => some (xnb r7))) := fun k hk => by
    unfold f_Sentence_isFact
    simp only [x_isWithin, if_pos b40, xbR_s, Int.toNat_natCast, hk]
    rfl
  rcases hf with ⟨f1, f2, f3, f4, f5⟩ | ⟨f1, f2⟩ | ⟨f1, f2⟩ | ⟨f1, f3, f4, f5, f6⟩
  · obtain ⟨w, hw⟩ : ∃ w : Nat, s 25 i = (w : Int) := ⟨(s 25 i).toNat, by omega⟩
    obtain ⟨v, v1, v2, v3⟩ := like_lock hP e7 (b := w) (by omega) 7 1000000 1000000 0 (by omega) (by omega) (by omega)
    rw [c0n] at v1 v2
    have v1 : f_Odds_areLike (e : Int) (w : Int) s = some v := v1
    have v2 : f_M_areLike (e : Int) (w : Int) M = some v := v2
    refine ⟨v.toNat, by omega, ?_, fun q => ?_⟩
    · rw [hX _ f1, if_pos rfl, hw, v1, xbR_s, xnb_b v3, Int.toNat_of_nonneg (by omega)]
    · rw [holds_hd hM hi, f2, if_neg (by decide), if_neg (by decide), if_neg (by decide), if_pos rfl, ← f3, hw, v2, xbR_s, xnb_b v3, Int.toNat_of_nonneg (by omega)]
  · obtain ⟨v, v1, v2, v3⟩ := comes_lock hP e7 7 1000000 1000000 0 (by omega) (by omega) (by omega)
    rw [c0n] at v1 v2
    have v1 : f_Odds_comes (e : Int) s = some v := v1
    have v2 : f_M_comes (e : Int) M = some v := v2
    refine ⟨v.toNat, by omega, ?_, fun q => ?_⟩
    · rw [hX _ f1, if_neg (by decide), if_pos rfl, v1, xbR_s, xnb_b v3, Int.toNat_of_nonneg (by omega)]
    · rw [holds_hd hM hi, f2, if_neg (by decide), if_neg (by decide), if_neg (by decide), if_neg (by decide), if_pos rfl, v2, xbR_s, xnb_b v3, Int.toNat_of_nonneg (by omega)]
  · have en := h.en (p := (e : Int)) (by omega) he
    rw [Int.toNat_natCast] at en
    have k5 : w32 (w32 (28 + w32 (2 * (e : Int))) + 1) = ((29 + 2 * e : Nat) : Int) := by
      have z1 : w32 (2 * (e : Int)) = ((2 * e : Nat) : Int) := (w32_o (by omega) (by omega)).trans (by omega)
      have z2 : w32 (28 + ((2 * e : Nat) : Int)) = ((28 + 2 * e : Nat) : Int) := (w32_o (by omega) (by omega)).trans (by omega)
      rw [z1, z2]
      exact (w32_o (by omega) (by omega)).trans (by omega)
    have b5 : 0 ≤ ((29 + 2 * e : Nat) : Int) ∧ ((29 + 2 * e : Nat) : Int) < 924 := by omega
    have hs : f_Table_hasShare (e : Int) s = some (if 0 < s 15 e then 1 else 0) := by
      unfold f_Table_hasShare
      rw [x_hasEnd (by omega), if_pos (by omega), xbR_s, if_neg (by decide), if_pos (by omega), Int.toNat_natCast]
      split <;> rfl
    by_cases hz : 0 < s 15 e
    · refine ⟨1, Or.inr rfl, ?_, fun q => ?_⟩
      · rw [hX _ f1, if_neg (by decide), if_neg (by decide), if_pos rfl, hs, xbR_s, if_pos hz]
        rfl
      · rw [holds_hd hM hi, f2, if_neg (by decide), if_neg (by decide), if_neg (by decide), if_neg (by decide), if_neg (by decide), if_pos rfl, k5, if_pos b5, Int.toNat_natCast, hM, ← en.2.1, if_pos hz]
        rfl
    · refine ⟨0, Or.inl rfl, ?_, fun q => ?_⟩
      · rw [hX _ f1, if_neg (by decide), if_neg (by decide), if_pos rfl, hs, xbR_s, if_neg hz]
        rfl
      · rw [holds_hd hM hi, f2, if_neg (by decide), if_neg (by decide), if_neg (by decide), if_neg (by decide), if_neg (by decide), if_pos rfl, k5, if_pos b5, Int.toNat_natCast, hM, ← en.2.1, if_neg hz]
        rfl
  · rcases f1 with ⟨f1, f2⟩ | ⟨f1, f2⟩
    · obtain ⟨v, v0, v1, v2⟩ := sized_lock (x := (e : Int)) (b := s 25 i) hM hi f3 f5
      refine ⟨v, v0, ?_, fun q => ?_⟩
      · rw [hX _ f1, if_neg (by decide), if_neg (by decide), if_neg (by decide), if_pos rfl, v1, xbR_s, xnb_b (by omega)]
      · rw [holds_hd hM hi, f2, if_neg (by decide), if_neg (by decide), if_neg (by decide), if_neg (by decide), if_neg (by decide), if_neg (by decide), if_pos rfl, ← f4, v2]
    · have h80 := h.nodes
      obtain ⟨n, hn⟩ : ∃ n : Nat, s 16 0 = (n : Int) := ⟨(s 16 0).toNat, by omega⟩
      obtain ⟨u, u1, u2⟩ := knots_lock (e := e) h hM hn n 1000000 1000000 0 0 (by omega) (by omega) (by omega) (Nat.le_refl 0)
      rw [c0n] at u1 u2
      have u1 : f_Way_knotsOf (e : Int) s = some u := u1
      have u2 : f_M_knots (e : Int) M = some u := u2
      obtain ⟨v, v0, v1, v2⟩ := sized_lock (x := u) (b := s 25 i) hM hi f3 f5
      refine ⟨v, v0, ?_, fun q => ?_⟩
      · rw [hX _ f1, if_neg (by decide), if_neg (by decide), if_neg (by decide), if_neg (by decide), u1, xbR_s, v1, xbR_s, xnb_b (by omega)]
      · rw [holds_hd hM hi, f2, if_neg (by decide), if_neg (by decide), if_neg (by decide), if_neg (by decide), if_neg (by decide), if_neg (by decide), if_neg (by decide), u2, xbR_s, ← f4, v2]
