/-! TOKENS: what a token is; the model reads it -/
def kS (c : Int) : Bool := decide (c = 59) || decide (c = 58) || decide (c = 60) || decide (c = 61) || decide (c = 62) || decide (c = 40) || decide (c = 41)
theorem kS_i {c : Int} : kS c = true ↔ c = 59 ∨ c = 58 ∨ c = 60 ∨ c = 61 ∨ c = 62 ∨ c = 40 ∨ c = 41 := by
  unfold kS
  simp only [Bool.or_eq_true, decide_eq_true_iff, or_assoc]
def skQ (d : Nat → Int) (n : Nat) : Nat → Nat
  | 0 => n
  | j + 1 => if d (n - (j + 1)) = 32 ∨ d (n - (j + 1)) = 10 then skQ d n j else n - (j + 1)
theorem skQ_b {d : Nat → Int} {n : Nat} : ∀ j : Nat, j ≤ n → n - j ≤ skQ d n j ∧ skQ d n j ≤ n := by
  intro j
  induction j with
  | zero => exact fun _ => ⟨Nat.le_refl _, Nat.le_refl _⟩
  | succ j ih =>
    intro h
    have := ih (by omega)
    have e : skQ d n (j + 1) = if d (n - (j + 1)) = 32 ∨ d (n - (j + 1)) = 10 then skQ d n j else n - (j + 1) := rfl
    rw [e]
    split <;> omega
theorem runQ_b {d : Nat → Int} {n : Nat} : ∀ j : Nat, j ≤ n → n - j ≤ runQ d n j ∧ runQ d n j ≤ n := by
  intro j
  induction j with
  | zero => exact fun _ => ⟨Nat.le_refl _, Nat.le_refl _⟩
  | succ j ih =>
    intro h
    have := ih (by omega)
    have e : runQ d n (j + 1) = if kL (d (n - (j + 1))) = true ∨ kD (d (n - (j + 1))) = true then runQ d n j else n - (j + 1) := rfl
    rw [e]
    split <;> omega
theorem runQ_1 {d : Nat → Int} {n q : Nat} (hq : q < n) (h : kL (d q) = true ∨ kD (d q) = true) : q + 1 ≤ runQ d n (n - q) ∧ runQ d n (n - q) ≤ n := by
  obtain ⟨j, hj⟩ : ∃ j, n - q = j + 1 := ⟨n - q - 1, by omega⟩
  have b := runQ_b (d := d) (n := n) j (by omega)
  have e : runQ d n (j + 1) = if kL (d (n - (j + 1))) = true ∨ kD (d (n - (j + 1))) = true then runQ d n j else n - (j + 1) := rfl
  rw [show n - (j + 1) = q by omega, if_pos h] at e
  rw [hj, e]
  omega
theorem cnt_1 {d : Nat → Int} {q : Nat} : ∀ m : Nat, 1 ≤ m → (kL (d q) = true → 1 ≤ cL d q m) ∧ (¬ kL (d q) = true → 1 ≤ cD d q m) := by
  intro m
  induction m with
  | zero => exact fun h => absurd h (by decide)
  | succ m ih =>
    intro _
    have eL : cL d q (m + 1) = cL d q m + (if kL (d (q + m)) = true then 1 else 0) := rfl
    have eD : cD d q (m + 1) = cD d q m + (if kL (d (q + m)) = true then 0 else 1) := rfl
    by_cases hz : m = 0
    · subst hz
      rw [Nat.add_zero q] at eL eD
      refine ⟨fun z => ?_, fun z => ?_⟩
      · rw [if_pos z] at eL
        omega
      · rw [if_neg z] at eD
        omega
    · obtain ⟨i1, i2⟩ := ih (by omega)
      exact ⟨fun z => by have := i1 z; omega, fun z => by have := i2 z; omega⟩
def tq (d : Nat → Int) (n p : Nat) : Nat := skQ d n (n - p)
def tm (d : Nat → Int) (n p : Nat) : Nat := runQ d n (n - tq d n p) - tq d n p
def tk (d : Nat → Int) (n lim p : Nat) : Nat :=
  if lim < n ∧ lim ≤ tq d n p then 1 else if n ≤ tq d n p then 0 else
  if kL (d (tq d n p)) = true ∨ kD (d (tq d n p)) = true then (if cD d (tq d n p) (tm d n p) = 0 ∧ tm d n p ≤ 6 then 3 else if cL d (tq d n p) (tm d n p) = 0 ∧ tm d n p ≤ 3 then 5 else 2) else
  if kS (d (tq d n p)) = true then 6 else 2
def te (d : Nat → Int) (n lim p : Nat) : Nat :=
  if lim < n ∧ lim ≤ tq d n p then tq d n p else if n ≤ tq d n p then tq d n p else
  if kL (d (tq d n p)) = true ∨ kD (d (tq d n p)) = true then runQ d n (n - tq d n p) else tq d n p + 1
def tpl (d : Nat → Int) (n lim p : Nat) : Nat := if lim < n ∧ lim ≤ tq d n p then lim else tq d n p
def ms (k : Nat) : Int := if k = 0 then 0 else if k = 3 then 2 else if k = 5 then 3 else if k = 6 then 4 else 1
def frH (τ τ' : xSt) : Prop := ∀ a k, (a = 111 → k ≠ 5 ∧ k ≠ 6 ∧ k ≠ 7 ∧ k ≠ 8 ∧ k ≠ 9 ∧ k ≠ 12) → τ' a k = τ a k
theorem m_skip {d : Nat → Int} {n : Nat} : ∀ (j fu p : Nat) (τ : xSt), p + j = n → j < fu → TapM d n τ → τ 111 5 = (p : Int) → ∃ τ', f_M_go_0 fu τ = f_M_go_52 τ' ∧ τ' 111 5 = (skQ d n j : Int) ∧ ∀ a k, (a = 111 → k ≠ 5) → τ' a k = τ a k := by
  intro j
  induction j with
  | zero =>
    intro fu p τ g1 g2 hT h5
    obtain ⟨fu, rfl⟩ : ∃ n2, fu = n2 + 1 := ⟨fu - 1, by omega⟩
    refine ⟨τ, ?_, by show _ = (n : Int); omega, fun _ _ _ => rfl⟩
    rw [f_M_go_0.eq_2, h5, hT.2.1, if_neg (by omega)]
  | succ j ih =>
    intro fu p τ g1 g2 hT h5
    obtain ⟨fu, rfl⟩ : ∃ n2, fu = n2 + 1 := ⟨fu - 1, by omega⟩
    have hTT := hT
    obtain ⟨h640, hn, hT⟩ := hT
    have c1 : (p : Int) < (n : Int) := by omega
    have c3 : 0 ≤ (p : Int) ∧ (p : Int) < 640 := by omega
    have n1 : p < 100000 := by omega
    obtain ⟨t1, t2, t3⟩ := hT p (by omega)
    have er : skQ d n (j + 1) = if d p = 32 ∨ d p = 10 then skQ d n j else p := by
      show (if d (n - (j + 1)) = 32 ∨ d (n - (j + 1)) = 10 then skQ d n j else n - (j + 1)) = _
      rw [show n - (j + 1) = p by omega]
    have on : (d p = 32 ∨ d p = 10) → f_M_go_0 (fu + 1) τ = f_M_go_0 fu (upS τ 111 5 ((p + 1 : Nat) : Int)) := fun hk => by
      have e39 : f_M_go_39 (fun sz => f_M_go_0 fu sz) τ = f_M_go_0 fu (upS τ 111 5 ((p + 1 : Nat) : Int)) := by
        unfold f_M_go_39
        rw [h5, w32_n1 n1, xlet_s]
      rw [f_M_go_0.eq_2, h5, hn, if_pos c1, if_pos c3, Int.toNat_natCast, t1]
      by_cases h32 : d p = 32
      · rw [if_pos h32, e39]
      · rw [if_neg h32, if_pos c3, if_pos (hk.resolve_left h32), e39]
    by_cases hk : d p = 32 ∨ d p = 10
    · obtain ⟨τ', a1, a2, a3⟩ := ih fu (p + 1) (upS τ 111 5 ((p + 1 : Nat) : Int)) (by omega) (by omega) ⟨h640, by rw [upS_nk (by decide)]; exact hn, fun k hk => by rw [upS_ne (by decide)]; exact hT k hk⟩ upS_eq
      exact ⟨τ', by rw [on hk, a1], by rw [er, if_pos hk]; exact a2, fun a k hk => by rw [a3 a k hk, upS_rd, if_neg (fun z => hk z.1 z.2)]⟩
    · refine ⟨τ, ?_, by rw [er, if_neg hk]; exact h5, fun _ _ _ => rfl⟩
      rw [f_M_go_0.eq_2, h5, hn, if_pos c1, if_pos c3, Int.toNat_natCast, t1, if_neg (fun z => hk (Or.inl z)), if_pos c3, if_neg (fun z => hk (Or.inr z))]
