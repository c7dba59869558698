/-! TOKENS: both sides go on in lock-step -/
def MTok (d : Nat → Int) (n lim : Nat) (τ : xSt) (p : Nat) : Prop := τ 111 5 = (te d n lim p : Int) ∧ τ 111 6 = (tpl d n lim p : Int) ∧ τ 111 7 = ms (tk d n lim p) ∧ (tk d n lim p = 3 → τ 111 12 = lv 27 d (tq d n p) (tm d n p)) ∧ (tk d n lim p = 5 → τ 111 8 = nv d (tq d n p) (tm d n p)) ∧ (tk d n lim p = 6 → τ 111 9 = d (tq d n p))
theorem MTok.cg {d : Nat → Int} {n lim p p' : Nat} {τ : xSt} (h : MTok d n lim τ p) (e : tq d n p = tq d n p') : MTok d n lim τ p' := by
  unfold MTok te tk tpl tm at h ⊢
  rw [← e]
  exact h
theorem skQ_nw {d : Nat → Int} {n : Nat} : ∀ j : Nat, j ≤ n → skQ d n j < n → ¬ (d (skQ d n j) = 32 ∨ d (skQ d n j) = 10) := by
  intro j
  induction j with
  | zero => exact fun _ h => absurd h (Nat.lt_irrefl n)
  | succ j ih =>
    intro hj h
    have e : skQ d n (j + 1) = if d (n - (j + 1)) = 32 ∨ d (n - (j + 1)) = 10 then skQ d n j else n - (j + 1) := rfl
    by_cases hw : d (n - (j + 1)) = 32 ∨ d (n - (j + 1)) = 10
    · rw [if_pos hw] at e
      rw [e] at h ⊢
      exact ih (by omega) h
    · rw [if_neg hw] at e
      rw [e]
      exact hw
theorem tq_b {d : Nat → Int} {n p : Nat} (hp : p ≤ n) : p ≤ tq d n p ∧ tq d n p ≤ n := by
  have := skQ_b (d := d) (n := n) (n - p) (by omega)
  unfold tq
  omega
theorem tq_q {d : Nat → Int} {n p : Nat} (hp : p ≤ n) : tq d n (tq d n p) = tq d n p := by
  obtain ⟨b1, b2⟩ := tq_b (d := d) hp
  by_cases h : tq d n p < n
  · have nw : ¬ (d (tq d n p) = 32 ∨ d (tq d n p) = 10) := skQ_nw (n - p) (by omega) h
    have e := tq_w (d := d) h
    rw [if_neg nw] at e
    exact e
  · have hq : tq d n p = n := by omega
    rw [hq]
    unfold tq
    rw [Nat.sub_self]
    rfl
theorem te_b {d : Nat → Int} {n lim p : Nat} (hp : p ≤ n) : te d n lim p ≤ n := by
  obtain ⟨b1, b2⟩ := tq_b (d := d) hp
  unfold te
  by_cases h1 : lim < n ∧ lim ≤ tq d n p
  · rw [if_pos h1]
    exact b2
  · rw [if_neg h1]
    by_cases h2 : n ≤ tq d n p
    · rw [if_pos h2]
      exact b2
    · rw [if_neg h2]
      have hq : tq d n p < n := by omega
      by_cases hk : kL (d (tq d n p)) = true ∨ kD (d (tq d n p)) = true
      · rw [if_pos hk]
        exact (runQ_1 hq hk).2
      · rw [if_neg hk]
        omega
theorem pos_b {d : Nat → Int} {n lim : Nat} : ∀ i : Nat, pos d n lim i ≤ n := by
  intro i
  induction i with
  | zero => exact Nat.zero_le n
  | succ i ih => exact te_b ih
theorem te_end {d : Nat → Int} {n lim p : Nat} (h : tk d n lim p = 0 ∨ tk d n lim p = 1) : te d n lim p = tq d n p := by
  unfold te
  by_cases h1 : lim < n ∧ lim ≤ tq d n p
  · exact if_pos h1
  · rw [if_neg h1]
    by_cases h2 : n ≤ tq d n p
    · exact if_pos h2
    · have ek : tk d n lim p = kq d n (tq d n p) := (if_neg h1).trans (if_neg h2)
      have k := kq_01 (d := d) (n := n) (q := tq d n p)
      omega
/-- the model goes on as the class steps -/
theorem m_step {d : Nat → Int} {n lim i c : Nat} {τ : xSt} (hT : TapM d n τ) (hl : τ 111 4 = (lim : Int)) (h : MTok d n lim τ (pos d n lim i)) (hc : ¬ i < c → tk d n lim (pos d n lim i) = 0 ∨ tk d n lim (pos d n lim i) = 1) : ∃ τ', f_M_go τ = some τ' ∧ MTok d n lim τ' (pos d n lim (if i < c then i + 1 else i)) ∧ frH τ τ' := by
  obtain ⟨τ', a1, a2, a3, a4, a5, a6, a7, a8⟩ := m_go (p := te d n lim (pos d n lim i)) hT hl h.1 (te_b (pos_b i))
  have hM : MTok d n lim τ' (te d n lim (pos d n lim i)) := ⟨a2, a3, a4, a5, a6, a7⟩
  refine ⟨τ', a1, ?_, a8⟩
  by_cases hic : i < c
  · rw [if_pos hic]
    exact hM
  · rw [if_neg hic]
    refine hM.cg ?_
    rw [te_end (hc hic), tq_q (pos_b i)]
/-- class and model stand at one token -/
def LR (d : Nat → Int) (n lim c i : Nat) (σ τ : xSt) : Prop := Toks d n lim σ c ∧ Cur σ i ∧ i ≤ c ∧ c ≤ 640 ∧ TapM d n τ ∧ τ 111 4 = (lim : Int) ∧ MTok d n lim τ (pos d n lim i)
theorem TokI.cg {d : Nat → Int} {n lim i : Nat} {σ σ' : xSt} (h : TokI d n lim σ i) (f : ∀ a k, a = 3 ∨ a = 4 ∨ a = 5 → σ' a k = σ a k) : TokI d n lim σ' i := by
  obtain ⟨s, v, h1, y1, y2, y3⟩ := h
  exact ⟨s, v, h1, by rw [f 3 i (Or.inl rfl)]; exact y1, by rw [f 4 i (Or.inr (Or.inl rfl))]; exact y2, by rw [f 5 i (Or.inr (Or.inr rfl))]; exact y3⟩
theorem Toks.cg {d : Nat → Int} {n lim c : Nat} {σ σ' : xSt} (h : Toks d n lim σ c) (h24 : σ' 2 4 = σ 2 4) (f : ∀ a k, a = 3 ∨ a = 4 ∨ a = 5 → σ' a k = σ a k) : Toks d n lim σ' c := by
  obtain ⟨h1, h2, h3, h4, h5⟩ := h
  exact ⟨h1, by rw [h24]; exact h2, fun i hi => ⟨(h3 i hi).1, (h3 i hi).2.1, (h3 i hi).2.2.cg f⟩, h4, h5.cg f⟩
theorem LR.go {d : Nat → Int} {n lim c i : Nat} {σ τ : xSt} (h : LR d n lim c i σ τ) : ∃ σ' τ' i', f_Tokens_step σ = some σ' ∧ f_M_go τ = some τ' ∧ LR d n lim c i' σ' τ' ∧ frS σ σ' ∧ frH τ τ' := by
  obtain ⟨h1, h2, h3, h4, h5, h6, h7⟩ := h
  obtain ⟨σ', a1, a2, a3⟩ := x_step h1.2.1 h2 h3 h4
  obtain ⟨τ', b1, b2, b3⟩ := m_step (c := c) h5 h6 h7 (fun hic => by
    have : i = c := by omega
    rw [this]
    exact h1.2.2.2.1)
  refine ⟨σ', τ', _, a1, b1, ⟨h1.cg (a3 2 4 (fun _ => by decide)) (fun a k z => a3 a k (fun y => by omega)), a2, by split <;> omega, h4, ⟨h5.1, ?_, fun k hk => ?_⟩, ?_, b2⟩, a3, b3⟩
  · rw [b3 111 3 (fun _ => by decide)]
    exact h5.2.1
  · rw [b3 112 k (fun z => absurd z (by decide))]
    exact h5.2.2 k hk
  · rw [b3 111 4 (fun _ => by decide)]
    exact h6
/-- a token that is no end: there is one behind it -/
theorem LR.lt {d : Nat → Int} {n lim c i : Nat} {σ τ : xSt} (h : LR d n lim c i σ τ) (h0 : σ 2 6 ≠ 0) (h1 : σ 2 6 ≠ 1) : i < c := by
  obtain ⟨⟨-, -, -, t4, t5⟩, ⟨-, c6, -, -⟩, h3, -⟩ := h
  rcases Nat.lt_or_ge i c with z | z
  · exact z
  · obtain ⟨s, v, ⟨k3, k5, k6, k2, k1, k0⟩, y1, y2, y3⟩ := t5
    have hi : i = c := by omega
    rw [hi, y1] at c6
    rcases t4 with e | e
    · exact absurd (c6.trans (k0 e)) h0
    · exact absurd (c6.trans (k1 e)) h1
theorem LR.go1 {d : Nat → Int} {n lim c i : Nat} {σ τ : xSt} (h : LR d n lim c i σ τ) (h0 : σ 2 6 ≠ 0) (h1 : σ 2 6 ≠ 1) : ∃ σ' τ', f_Tokens_step σ = some σ' ∧ f_M_go τ = some τ' ∧ LR d n lim c (i + 1) σ' τ' ∧ frS σ σ' ∧ frH τ τ' := by
  have hic := h.lt h0 h1
  obtain ⟨h1, h2, h3, h4, h5, h6, h7⟩ := h
  obtain ⟨σ', a1, a2, a3⟩ := x_step h1.2.1 h2 h3 h4
  obtain ⟨τ', b1, b2, b3⟩ := m_step (c := c) h5 h6 h7 (fun z => absurd hic z)
  rw [if_pos hic] at a2 b2
  refine ⟨σ', τ', a1, b1, ⟨h1.cg (a3 2 4 (fun _ => by decide)) (fun a k z => a3 a k (fun y => by omega)), a2, hic, h4, ⟨h5.1, ?_, fun k hk => ?_⟩, ?_, b2⟩, a3, b3⟩
  · rw [b3 111 3 (fun _ => by decide)]
    exact h5.2.1
  · rw [b3 112 k (fun z => absurd z (by decide))]
    exact h5.2.2 k hk
  · rw [b3 111 4 (fun _ => by decide)]
    exact h6
