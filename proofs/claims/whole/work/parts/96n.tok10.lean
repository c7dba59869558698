/-! TOKENS: begin's loop -/
def pos (d : Nat → Int) (n lim : Nat) : Nat → Nat
  | 0 => 0
  | i + 1 => te d n lim (pos d n lim i)
def TokI (d : Nat → Int) (n lim : Nat) (σ : xSt) (i : Nat) : Prop := ∃ s v, RecK d n (tq d n (pos d n lim i)) (tk d n lim (pos d n lim i)) s v ∧ Row3 σ i s v (tpl d n lim (pos d n lim i))
theorem tq_w {d : Nat → Int} {n x : Nat} (hx : x < n) : tq d n x = if d x = 32 ∨ d x = 10 then tq d n (x + 1) else x := by
  obtain ⟨j, hj⟩ : ∃ j, n - x = j + 1 := ⟨n - x - 1, by omega⟩
  unfold tq
  have e : skQ d n (j + 1) = if d (n - (j + 1)) = 32 ∨ d (n - (j + 1)) = 10 then skQ d n j else n - (j + 1) := rfl
  rw [hj, e, show n - (j + 1) = x by omega, show n - (x + 1) = j by omega]
theorem tk_q {d : Nat → Int} {n lim p x : Nat} (h : tq d n p = x) (hx : x < n) (hl : x < lim) : tk d n lim p = kq d n x ∧ te d n lim p = eq' d n x ∧ tpl d n lim p = x := by
  have h1 : ¬ (lim < n ∧ lim ≤ tq d n p) := fun z => by omega
  have h2 : ¬ n ≤ tq d n p := fun z => by omega
  refine ⟨(if_neg h1).trans ((if_neg h2).trans ?_), (if_neg h1).trans ((if_neg h2).trans ?_), (if_neg h1).trans h⟩
  · unfold tm kq
    rw [h]
  · unfold eq'
    rw [h]
theorem kq_01 {d : Nat → Int} {n q : Nat} : kq d n q ≠ 0 ∧ kq d n q ≠ 1 := by
  unfold kq
  (repeat' split) <;> exact ⟨by decide, by decide⟩
theorem eq_b {d : Nat → Int} {n q : Nat} (hq : q < n) : q + 1 ≤ eq' d n q ∧ eq' d n q ≤ n := by
  unfold eq'
  by_cases hk : kL (d q) = true ∨ kD (d q) = true
  · rw [if_pos hk]
    exact runQ_1 hq hk
  · rw [if_neg hk]
    omega
def frT (σ σ' : xSt) : Prop := ∀ a k, (a = 2 → k ≠ 4) → a ≠ 3 → a ≠ 4 → a ≠ 5 → σ' a k = σ a k
theorem x_beg20 {d : Nat → Int} {n lim : Nat} (h640 : n ≤ 640) : ∀ (j fu x l c : Nat) (σ : xSt), n - x ≤ j → j < fu → x ≤ n → l ≤ x → c ≤ x → TapX d n σ → σ 2 4 = (c : Int) → (∀ i : Nat, i < c → tk d n lim (pos d n lim i) ≠ 0 ∧ tk d n lim (pos d n lim i) ≠ 1 ∧ TokI d n lim σ i) → tq d n (pos d n lim c) = tq d n x →
    ∃ (c' x' : Nat) (σ' : xSt), f_Tokens_begin_20 fu (n : Int) (lim : Int) (x : Int) (l : Int) σ = f_Tokens_begin_51 (n : Int) (lim : Int) σ' ∧ c' ≤ x' ∧ x' ≤ n ∧ (n ≤ x' ∨ lim ≤ x') ∧ σ' 2 4 = (c' : Int) ∧ (∀ i : Nat, i < c' → tk d n lim (pos d n lim i) ≠ 0 ∧ tk d n lim (pos d n lim i) ≠ 1 ∧ TokI d n lim σ' i) ∧ tq d n (pos d n lim c') = tq d n x' ∧ frT σ σ' := by
  intro j
  induction j with
  | zero =>
    intro fu x l c σ g1 g2 g3 g4 g5 hT hc hi ht
    obtain ⟨fu, rfl⟩ : ∃ n2, fu = n2 + 1 := ⟨fu - 1, by omega⟩
    refine ⟨c, x, σ, ?_, g5, g3, Or.inl (by omega), hc, hi, ht, fun _ _ _ _ _ _ => rfl⟩
    rw [f_Tokens_begin_20.eq_2, if_neg (show ¬ (x : Int) < (n : Int) by omega)]
    split <;> rfl
  | succ j ih =>
    intro fu x l c σ g1 g2 g3 g4 g5 hT hc hi ht
    obtain ⟨fu, rfl⟩ : ∃ n2, fu = n2 + 1 := ⟨fu - 1, by omega⟩
    by_cases hx : x < n
    · by_cases hl : x < lim
      · have c1 : (l : Int) < 640 := by omega
        have c2 : (x : Int) < (n : Int) := by omega
        have c3 : (x : Int) < (lim : Int) := by omega
        have l1 : l < 100000 := by omega
        obtain ⟨r1, r2⟩ := x_rtok (c := c) hT hx hc (by omega)
        have tw := tq_w (d := d) hx
        by_cases hw : d x = 32 ∨ d x = 10
        · rw [if_pos hw] at tw
          have e1 := r1 hw
          clear r1 r2
          obtain ⟨c', x', σ', a1, a2⟩ := ih fu (x + 1) (l + 1) c σ (by omega) (by omega) (by omega) (by omega) (by omega) hT hc hi (by rw [ht, tw])
          refine ⟨c', x', σ', ?_, a2⟩
          rw [f_Tokens_begin_20.eq_2, if_pos c1, if_pos c2, if_pos c3, e1, xbW_s, w32_n1 l1, xlet_s, a1]
        · rw [if_neg hw] at tw
          obtain ⟨σ1, s, v, b1, b2, b3, b4, b5⟩ := r2 hw
          clear r1 r2
          rw [tw] at ht
          obtain ⟨k1, k2, k3⟩ := tk_q ht hx hl
          have eb := eq_b (d := d) hx
          have ep : pos d n lim (c + 1) = eq' d n x := k2
          have hT1 : TapX d n σ1 := ⟨h640, fun k hk => by rw [b5 1 k (fun z => absurd z (by decide)) (fun z => by omega)]; exact hT.2 k hk⟩
          obtain ⟨c', x', σ', a1, a2, a3, a4, a5, a6, a7, a8⟩ := ih fu (eq' d n x) (l + 1) (c + 1) σ1 (by omega) (by omega) (by omega) (by omega) (by omega) hT1 b4 (fun i hi2 => by
            by_cases hz : i = c
            · subst hz
              rw [k1]
              refine ⟨kq_01.1, kq_01.2, s, v, ?_, ?_⟩
              · rw [k1, ht]
                exact b2
              · rw [k3]
                exact b3
            · obtain ⟨h1, h2, s', v', h3, h4⟩ := hi i (by omega)
              obtain ⟨y1, y2, y3⟩ := h4
              refine ⟨h1, h2, s', v', h3, ?_, ?_, ?_⟩
              · rw [b5 3 i (fun z => absurd z (by decide)) (fun _ => hz)]
                exact y1
              · rw [b5 4 i (fun z => absurd z (by decide)) (fun _ => hz)]
                exact y2
              · rw [b5 5 i (fun z => absurd z (by decide)) (fun _ => hz)]
                exact y3) (by rw [ep])
          refine ⟨c', x', σ', ?_, a2, a3, a4, a5, a6, a7, fun a k z1 z2 z3 z4 => by rw [a8 a k z1 z2 z3 z4, b5 a k z1 (fun z => by omega)]⟩
          rw [f_Tokens_begin_20.eq_2, if_pos c1, if_pos c2, if_pos c3, b1, xbW_s, w32_n1 l1, xlet_s, a1]
      · refine ⟨c, x, σ, ?_, g5, g3, Or.inr (by omega), hc, hi, ht, fun _ _ _ _ _ _ => rfl⟩
        rw [f_Tokens_begin_20.eq_2, if_pos (show (x : Int) < (n : Int) by omega), if_neg (show ¬ (x : Int) < (lim : Int) by omega)]
        split <;> rfl
    · refine ⟨c, x, σ, ?_, g5, g3, Or.inl (by omega), hc, hi, ht, fun _ _ _ _ _ _ => rfl⟩
      rw [f_Tokens_begin_20.eq_2, if_neg (show ¬ (x : Int) < (n : Int) by omega)]
      split <;> rfl
