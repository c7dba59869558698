/-! TOKENS: words and NAMES in lock-step -/
theorem tk_k {d : Nat → Int} {n lim p : Nat} : (tk d n lim p = 0 ∨ tk d n lim p = 1 ∨ tk d n lim p = 2 ∨ tk d n lim p = 3 ∨ tk d n lim p = 5 ∨ tk d n lim p = 6) ∧ (tk d n lim p = 3 → cD d (tq d n p) (tm d n p) = 0 ∧ tm d n p ≤ 6 ∧ 1 ≤ tm d n p) ∧ (tk d n lim p = 5 → cL d (tq d n p) (tm d n p) = 0 ∧ tm d n p ≤ 3 ∧ Alp d (tq d n p) 0) := by
  have h1 : (lim < n ∧ lim ≤ tq d n p) → tk d n lim p = 1 := fun h => if_pos h
  by_cases hL : lim < n ∧ lim ≤ tq d n p
  · have := h1 hL
    exact ⟨by omega, fun z => by omega, fun z => by omega⟩
  · by_cases hq : n ≤ tq d n p
    · have e : tk d n lim p = 0 := (if_neg hL).trans (if_pos hq)
      exact ⟨by omega, fun z => by omega, fun z => by omega⟩
    · have e : tk d n lim p = (if kL (d (tq d n p)) = true ∨ kD (d (tq d n p)) = true then (if cD d (tq d n p) (tm d n p) = 0 ∧ tm d n p ≤ 6 then 3 else if cL d (tq d n p) (tm d n p) = 0 ∧ tm d n p ≤ 3 then 5 else 2) else if kS (d (tq d n p)) = true then 6 else 2) := (if_neg hL).trans (if_neg hq)
      by_cases hk : kL (d (tq d n p)) = true ∨ kD (d (tq d n p)) = true
      · rw [if_pos hk] at e
        have r := runQ_1 (d := d) (n := n) (q := tq d n p) (by omega) hk
        have hm : 1 ≤ tm d n p := by
          unfold tm
          omega
        by_cases h3 : cD d (tq d n p) (tm d n p) = 0 ∧ tm d n p ≤ 6
        · rw [if_pos h3] at e
          exact ⟨by omega, fun _ => ⟨h3.1, h3.2, hm⟩, fun z => by omega⟩
        · rw [if_neg h3] at e
          by_cases h5 : cL d (tq d n p) (tm d n p) = 0 ∧ tm d n p ≤ 3
          · rw [if_pos h5] at e
            exact ⟨by omega, fun z => by omega, fun _ => ⟨h5.1, h5.2, fun i hi => absurd hi (Nat.not_lt_zero _)⟩⟩
          · rw [if_neg h5] at e
            exact ⟨by omega, fun z => by omega, fun z => by omega⟩
      · rw [if_neg hk] at e
        by_cases hs : kS (d (tq d n p)) = true
        · rw [if_pos hs] at e
          exact ⟨by omega, fun z => by omega, fun z => by omega⟩
        · rw [if_neg hs] at e
          exact ⟨by omega, fun z => by omega, fun z => by omega⟩
/-- the token at hand, on both sides -/
def Hand (σ τ : xSt) : Prop := σ 2 8 = τ 111 6 ∧
  ((σ 2 6 = 0 ∧ τ 111 7 = 0) ∨ (σ 2 6 = 1 ∧ τ 111 7 = 1) ∨ (σ 2 6 = 2 ∧ τ 111 7 = 1) ∨
   (∃ l : List Nat, l ≠ [] ∧ l.length ≤ 6 ∧ (∀ c ∈ l, 1 ≤ c ∧ c ≤ 26) ∧ σ 2 7 = (pkN 32 l : Int) ∧ τ 111 12 = (pkN 27 l : Int) ∧ τ 111 7 = 2 ∧ ((pkN 32 l : Int) ∈ wd32 ∧ σ 2 6 = 3 ∨ ¬ (pkN 32 l : Int) ∈ wd32 ∧ σ 2 6 = 4)) ∨
   (σ 2 6 = 5 ∧ τ 111 7 = 3 ∧ σ 2 7 = τ 111 8) ∨ (σ 2 6 = 6 ∧ τ 111 7 = 4 ∧ σ 2 7 = τ 111 9))
theorem LR.hand {d : Nat → Int} {n lim c i : Nat} {σ τ : xSt} (h : LR d n lim c i σ τ) : Hand σ τ := by
  obtain ⟨h1, h2, h3, h4, h5, h6, h7⟩ := h
  obtain ⟨t1, t2, t3, t4, t5⟩ := h1
  have tI : TokI d n lim σ i := by
    by_cases hic : i < c
    · exact (t3 i hic).2.2
    · rw [show i = c by omega]
      exact t5
  obtain ⟨s, v, ⟨k3, k5, k6, k2, k1, k0⟩, y1, y2, y3⟩ := tI
  obtain ⟨c5, c6, c7, c8⟩ := h2
  obtain ⟨-, m6, m7, m12, m8, m9⟩ := h7
  obtain ⟨kk, kk3, kk5⟩ := tk_k (d := d) (n := n) (lim := lim) (p := pos d n lim i)
  refine ⟨by rw [c8, y3, m6], ?_⟩
  rw [c6, c7, y1, y2, m7]
  rcases kk with e | e | e | e | e | e
  · exact Or.inl ⟨k0 e, by rw [e]; rfl⟩
  · exact Or.inr (Or.inl ⟨k1 e, by rw [e]; rfl⟩)
  · exact Or.inr (Or.inr (Or.inl ⟨k2 e, by rw [e]; rfl⟩))
  · obtain ⟨a1, a2, a3⟩ := kk3 e
    obtain ⟨z1, z2, z3⟩ := ltr_ok (b := 32) (d := d) (q := tq d n (pos d n lim i)) _ a1
    obtain ⟨w1, -, -⟩ := ltr_ok (b := 27) (d := d) (q := tq d n (pos d n lim i)) _ a1
    obtain ⟨b1, b2⟩ := k3 e
    have b1 : v = (pkN 32 (ltr d (tq d n (pos d n lim i)) (tm d n (pos d n lim i))) : Int) := b1.trans z1
    refine Or.inr (Or.inr (Or.inr (Or.inl ⟨ltr d (tq d n (pos d n lim i)) (tm d n (pos d n lim i)), fun z => ?_, by omega, z3, b1, (m12 e).trans w1, by rw [e]; rfl, ?_⟩)))
    · rw [z] at z2
      have z2 : 0 = tm d n (pos d n lim i) := z2
      omega
    · rw [b1, told_i] at b2
      exact b2
  · obtain ⟨b1, b2⟩ := k5 e
    refine Or.inr (Or.inr (Or.inr (Or.inr (Or.inl ⟨b1, by rw [e]; rfl, ?_⟩))))
    rw [b2, m8 e]
    rfl
  · obtain ⟨b1, b2⟩ := k6 e
    exact Or.inr (Or.inr (Or.inr (Or.inr (Or.inr ⟨b1, by rw [e]; rfl, by rw [b2, m9 e]⟩))))
