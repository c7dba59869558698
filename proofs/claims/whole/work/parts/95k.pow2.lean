/-! powers: the model's walk -/
theorem psum_const {g : Nat → Int} {a : Nat} : ∀ b : Nat, a ≤ b → (∀ j : Nat, a ≤ j → j < b → g j = 0) → psum g b = psum g a := by
  intro b
  induction b with
  | zero => exact fun h _ => by rw [show a = 0 by omega]
  | succ b ih =>
    intro h hg
    by_cases hz : a = b + 1
    · rw [hz]
    · have e : psum g (b + 1) = psum g b + g b := rfl
      rw [e, hg b (by omega) (by omega), Int.add_zero]
      exact ih (by omega) (fun j h1 h2 => hg j h1 (by omega))
theorem sg_mul {m C w : Nat} : sg m (C * w) = (C : Int) * sg m w := by
  unfold sg
  split
  · exact Int.natCast_mul _ _
  · rw [Int.natCast_mul, Int.mul_neg]
theorem pwS_mul {e h t C w i : Nat} : ∀ m : Nat, (C : Int) * pwS e h t w m i = pwS e h t (C * w) m i := by
  intro m
  induction m with
  | zero => exact Int.mul_zero _
  | succ m ih =>
    have e1 : ∀ x, pwS e h t x (m + 1) i = pwS e h t x m i + (if i = 7 * e + h + m then sg m x * (chN t m : Int) else 0) := fun _ => rfl
    rw [e1, e1, Int.mul_add, ih]
    by_cases hz : i = 7 * e + h + m
    · rw [if_pos hz, if_pos hz, sg_mul, Int.mul_assoc]
    · rw [if_neg hz, if_neg hz, Int.mul_zero]
theorem pwS_0 {e h t i : Nat} : ∀ m : Nat, pwS e h t 0 m i = 0 := by
  intro m
  induction m with
  | zero => rfl
  | succ m ih =>
    have e1 : pwS e h t 0 (m + 1) i = pwS e h t 0 m i + (if i = 7 * e + h + m then sg m 0 * (chN t m : Int) else 0) := rfl
    have e2 : sg m 0 = 0 := by
      unfold sg
      split <;> rfl
    rw [e1, ih, e2, Int.zero_mul]
    split <;> rfl
theorem m_r36 {q : Int → Int → Int → Int → xSt → Option xSt} {e h t w : Nat} (he : e < 7) (ht : h + t ≤ 6) (hw : w ≤ 150094635296999121) {V : Nat → Int} : ∀ (j fu l : Nat) (τ : xSt), l + j = t + 1 → j < fu → (∀ i : Nat, i < 49 → τ 123 i = w64 (V i + pwS e h t w l i)) →
    ∃ τ', f_M_raise_36 q fu (w : Int) (h : Int) (t : Int) ((7 * e : Nat) : Int) (l : Int) τ = some τ' ∧ (∀ i : Nat, i < 49 → τ' 123 i = w64 (V i + pwS e h t w (t + 1) i)) ∧ ∀ a q, a ≠ 123 → τ' a q = τ a q := by
  intro j
  induction j with
  | zero =>
    intro fu l τ g1 g2 hV
    obtain ⟨fu, rfl⟩ : ∃ n2, fu = n2 + 1 := ⟨fu - 1, by omega⟩
    obtain rfl : l = t + 1 := by omega
    refine ⟨τ, ?_, hV, fun _ _ _ => rfl⟩
    rw [f_M_raise_36.eq_2, if_pos (by omega)]
  | succ j ih =>
    intro fu l τ g1 g2 hV
    obtain ⟨fu, rfl⟩ : ∃ n2, fu = n2 + 1 := ⟨fu - 1, by omega⟩
    have hl : l ≤ t := by omega
    have l1 : l < 100000 := by omega
    have t60 : t ≤ 60 := by omega
    have f1 : l + 1 + j = t + 1 := by omega
    have f2 : j < fu := by omega
    have f3 : ∀ i : Nat, i = 7 * e + (h + l) → i = 7 * e + h + l := fun i z => by omega
    have f4 : ∀ i : Nat, ¬ i = 7 * e + (h + l) → ¬ i = 7 * e + h + l := fun i z => by omega
    have c1 : ¬ (t : Int) < (l : Int) := by omega
    have c6 : 0 ≤ ((7 * e + (h + l) : Nat) : Int) ∧ ((7 * e + (h + l) : Nat) : Int) < 49 := by omega
    have i49 : 7 * e + (h + l) < 49 := by omega
    have c5 : w32 (w32 (((7 * e : Nat) : Int) + (h : Int)) + (l : Int)) = ((7 * e + (h + l) : Nat) : Int) := by
      have e1 : w32 (((7 * e : Nat) : Int) + (h : Int)) = ((7 * e + h : Nat) : Int) := (w32_o (by omega) (by omega)).trans (by omega)
      rw [e1]
      exact (w32_o (by omega) (by omega)).trans (by omega)
    have c7 : w64 (-(w : Int)) = -(w : Int) := w64_o (by omega) (by omega)
    have r2 : xrem (l : Int) 2 = ((l % 2 : Nat) : Int) := xrem_n (b := 2) (by omega)
    obtain ⟨τ', d1, d2, d3⟩ := ih fu (l + 1) (upS τ 123 (7 * e + (h + l)) (w64 (w64 (V (7 * e + (h + l)) + pwS e h t w l (7 * e + (h + l))) + w64 (sg l w * (chN t l : Int))))) f1 f2 (fun i hi => by
      have e1 : pwS e h t w (l + 1) i = pwS e h t w l i + (if i = 7 * e + h + l then sg l w * (chN t l : Int) else 0) := rfl
      by_cases hz : i = 7 * e + (h + l)
      · rw [← hz, upS_eq, e1, if_pos (f3 i hz), w64_addw, w64_addr, Int.add_assoc]
      · rw [upS_nk hz, e1, if_neg (f4 i hz), Int.add_zero]
        exact hV i hi)
    refine ⟨τ', ?_, d2, fun a q ha => by rw [d3 a q ha, upS_ne ha]⟩
    have r70 : ∀ k36, f_M_raise_70 q k36 (w : Int) (h : Int) (t : Int) ((7 * e : Nat) : Int) (l : Int) (sg l w) (τ 123 (7 * e + (h + l))) ((7 * e + (h + l) : Nat) : Int) τ = k36 (w : Int) (h : Int) (t : Int) ((7 * e : Nat) : Int) ((l + 1 : Nat) : Int) (upS τ 123 (7 * e + (h + l)) (w64 (w64 (V (7 * e + (h + l)) + pwS e h t w l (7 * e + (h + l))) + w64 (sg l w * (chN t l : Int))))) := fun k36 => by
      unfold f_M_raise_70
      rw [m_choose t60, xbR_s, if_pos c6, Int.toNat_natCast, hV _ i49, xlet_s, w32_n1 l1, xlet_s]
    by_cases hz : l % 2 = 0
    · have es : sg l w = (w : Int) := if_pos hz
      rw [es] at r70 d1
      rw [f_M_raise_36.eq_2, if_neg c1, c5, if_pos c6, r2, if_pos (by omega), Int.toNat_natCast, r70, d1]
    · have es : sg l w = -(w : Int) := if_neg hz
      rw [es] at r70 d1
      rw [f_M_raise_36.eq_2, if_neg c1, c5, if_pos c6, r2, if_neg (by omega), c7, Int.toNat_natCast, r70, d1]
/-- what the model's walk of NODES k to e adds -/
def MRk (G : xSt) (C d k e : Nat) (X H T : Nat → Nat) : Prop := ∀ (fu w : Nat) (V : Nat → Int) (τ : xSt), d < fu → C * w = X k → H k + T k + d ≤ 6 → (∀ q, τ 113 q = G 113 q) → (∀ i : Nat, i < 49 → τ 123 i = w64 (V i)) →
  ∃ (τ' : xSt) (E : Nat → Int), g_M_raise fu (k : Int) (w : Int) (H k : Int) (T k : Int) τ = some τ' ∧ (∀ i : Nat, i < 49 → τ' 123 i = w64 (V i + E i)) ∧ (∀ c q, c ≠ 123 → τ' c q = τ c q) ∧ ∀ i : Nat, i < 49 → psum (cP G X H T i) k + (C : Int) * E i = psum (cP G X H T i) e
theorem mr_leaf {G : xSt} (h : Inv0 G) {C d k : Nat} {X H T : Nat → Nat} (hC : 1 ≤ C) (hk : (k : Int) < G 16 0) (hs : G 17 k ≠ 2) (hx : X k ≤ 150094635296999121) : MRk G C d k (k + 1) X H T := by
  intro fu w V τ hd2 hCw hdp hB hV
  obtain ⟨fu, rfl⟩ : ∃ n2, fu = n2 + 1 := ⟨fu - 1, by omega⟩
  have h80 := h.nodes
  have hte := h.ends
  have nd := h.nd (p := (k : Int)) (by omega) hk
  rw [Int.toNat_natCast] at nd
  have so : f_M_sortOf (k : Int) τ = some (G 17 k) := by rw [m_sortOf (by omega) (by omega), Int.toNat_natCast, hB, ← nd.1]
  have wof : f_M_whichOf (k : Int) τ = some (G 18 k) := by rw [m_whichOf (by omega) (by omega), Int.toNat_natCast, hB, ← nd.2.1]
  have wle : w ≤ X k := by rw [← hCw]; exact Nat.le_mul_of_pos_left _ hC
  have hht : H k + T k ≤ 6 := by omega
  have hw : w ≤ 150094635296999121 := by omega
  have fin : ∀ e : Nat, e < 7 → eo G k = e → (∀ s, f_M_raise_36 (g_M_raise fu) 1000000 (w : Int) (H k : Int) (T k : Int) ((7 * e : Nat) : Int) 0 τ = some s → g_M_raise (fu + 1) (k : Int) (w : Int) (H k : Int) (T k : Int) τ = some s) → ∃ (τ' : xSt) (E : Nat → Int), g_M_raise (fu + 1) (k : Int) (w : Int) (H k : Int) (T k : Int) τ = some τ' ∧ (∀ i : Nat, i < 49 → τ' 123 i = w64 (V i + E i)) ∧ (∀ c q, c ≠ 123 → τ' c q = τ c q) ∧ ∀ i : Nat, i < 49 → psum (cP G X H T i) k + (C : Int) * E i = psum (cP G X H T i) (k + 1) := fun e he heo hst => by
    obtain ⟨s, s1, s2, s3⟩ := m_r36 (q := g_M_raise fu) (e := e) (h := H k) (t := T k) (w := w) (V := V) he hht hw (T k + 1) 1000000 0 τ (by omega) (by omega) (fun i hi => by
      show _ = w64 (V i + 0)
      rw [Int.add_zero]
      exact hV i hi)
    rw [c0n] at s1
    refine ⟨s, fun i => pwS e (H k) (T k) w (T k + 1) i, hst s s1, s2, s3, fun i hi => ?_⟩
    have e1 : psum (cP G X H T i) (k + 1) = psum (cP G X H T i) k + cP G X H T i k := rfl
    have e2 : cP G X H T i k = pwS e (H k) (T k) (X k) (T k + 1) i := by
      unfold cP
      rw [if_neg hs, heo]
    show psum (cP G X H T i) k + (C : Int) * pwS e (H k) (T k) w (T k + 1) i = _
    rw [pwS_mul, e1, e2, hCw]
  rcases nd.2.2.2.2 with ⟨d1, d2, d3⟩ | ⟨d1, -⟩ | ⟨d1, -⟩
  · obtain ⟨e, he⟩ : ∃ e : Nat, G 18 k = (e : Int) := ⟨(G 18 k).toNat, by omega⟩
    have e7 : w32 (7 * (e : Int)) = ((7 * e : Nat) : Int) := (w32_o (by omega) (by omega)).trans (by omega)
    refine fin e (by omega) (by unfold eo; rw [if_neg (by omega), he, Int.toNat_natCast]) (fun s hs2 => ?_)
    show f0_M_raise (g_M_raise fu) (k : Int) (w : Int) (H k : Int) (T k : Int) τ = _
    unfold f0_M_raise
    rw [so, xbR_s, if_pos (by omega), if_pos d1, wof, xbR_s, he, e7, xlet_s, hs2]
  · refine fin 6 (by decide) (if_pos d1) (fun s hs2 => ?_)
    have e7 : w32 (7 * 6) = ((7 * 6 : Nat) : Int) := rfl
    show f0_M_raise (g_M_raise fu) (k : Int) (w : Int) (H k : Int) (T k : Int) τ = _
    unfold f0_M_raise
    rw [so, xbR_s, if_pos (by omega), if_neg (by omega), e7, xlet_s, hs2]
  · exact absurd d1 hs
