/-! NAMES looked up in lock-step -/
theorem NmR.eqv {p q p' q' : Int} (h : NmR p q) (h' : NmR p' q') : p = p' ↔ q = q' := by
  obtain ⟨l, -, -, l3, rfl, rfl⟩ := h
  obtain ⟨l', -, -, l3', rfl, rfl⟩ := h'
  have a : ∀ l : List Nat, pk 32 l = (pkN 32 l : Int) := fun l => pk_nat (b := 32) l
  have b : ∀ l : List Nat, pk 27 l = (pkN 27 l : Int) := fun l => pk_nat (b := 27) l
  rw [a, a, b, b]
  constructor
  · intro z
    rw [pk_inj2 (b := 32) (by decide) l3 l3' (by omega)]
  · intro z
    rw [pk_inj2 (b := 27) (by decide) l3 l3' (by omega)]
theorem thing_lock {σ τ : xSt} {a0 R on N : Nat} (hN : σ a0 1 = (N : Int)) (h3 : N ≤ 3) (hon : on + N ≤ 9) (hnm : ∀ t : Nat, t < N → NmR (σ (a0 + 1) t) (τ R (on + t))) {p q : Int} (hpq : NmR p q) : ∀ (j fu fu2 t : Nat), t + j = N → j < fu → j < fu2 → ∃ v : Int, f_Table_thingNamed_2 a0 fu p (t : Int) σ = some v ∧ f_M_findIn_3 R fu2 (on : Int) (N : Int) q (t : Int) τ = some v ∧ (v = -1 ∨ 0 ≤ v ∧ v < (N : Int)) := by
  intro j
  induction j with
  | zero =>
    intro fu fu2 t g1 g2 g3
    obtain ⟨fu, rfl⟩ : ∃ n2, fu = n2 + 1 := ⟨fu - 1, by omega⟩
    obtain ⟨fu2, rfl⟩ : ∃ n2, fu2 = n2 + 1 := ⟨fu2 - 1, by omega⟩
    exact ⟨-1, by rw [f_Table_thingNamed_2.eq_2, hN, if_neg (by omega)], by rw [f_M_findIn_3.eq_2, if_neg (by omega)], Or.inl rfl⟩
  | succ j ih =>
    intro fu fu2 t g1 g2 g3
    obtain ⟨fu, rfl⟩ : ∃ n2, fu = n2 + 1 := ⟨fu - 1, by omega⟩
    obtain ⟨fu2, rfl⟩ : ∃ n2, fu2 = n2 + 1 := ⟨fu2 - 1, by omega⟩
    have c1 : (t : Int) < (N : Int) := by omega
    have c2 : (t : Int) < 3 := by omega
    have c3 : 0 ≤ (t : Int) ∧ (t : Int) < 3 := by omega
    have t1 : t < 100000 := by omega
    have c5 : 0 ≤ ((on + t : Nat) : Int) ∧ ((on + t : Nat) : Int) < 9 := by omega
    have e := NmR.eqv (hnm t (by omega)) hpq
    have c4 : w32 ((on : Int) + (t : Int)) = ((on + t : Nat) : Int) := (w32_o (by omega) (by omega)).trans (by omega)
    by_cases hz : σ (a0 + 1) t = p
    · exact ⟨(t : Int), by rw [f_Table_thingNamed_2.eq_2, hN, if_pos c1, if_pos c2, if_pos c3, Int.toNat_natCast, if_pos hz], by rw [f_M_findIn_3.eq_2, if_pos c1, c4, if_pos c5, Int.toNat_natCast, if_pos (xlc_z.mpr (e.mp hz))], Or.inr ⟨by omega, c1⟩⟩
    · obtain ⟨v, v1, v2, v3⟩ := ih fu fu2 (t + 1) (by omega) (by omega) (by omega)
      exact ⟨v, by rw [f_Table_thingNamed_2.eq_2, hN, if_pos c1, if_pos c2, if_pos c3, Int.toNat_natCast, if_neg hz, w32_n1 t1, xlet_s, v1], by rw [f_M_findIn_3.eq_2, if_pos c1, c4, if_pos c5, Int.toNat_natCast, if_neg (fun z => hz (e.mpr (xlc_z.mp z))), w32_n1 t1, xlet_s, v2], v3⟩
theorem end_lock {σ τ : xSt} {a0 R on N : Nat} (hN : σ a0 2 = (N : Int)) (h3 : N ≤ 6) (hon : on + N ≤ 9) (hnm : ∀ t : Nat, t < N → NmR (σ (a0 + 6) t) (τ R (on + t))) {p q : Int} (hpq : NmR p q) : ∀ (j fu fu2 t : Nat), t + j = N → j < fu → j < fu2 → ∃ v : Int, f_Table_endNamed_2 a0 fu p (t : Int) σ = some v ∧ f_M_findIn_3 R fu2 (on : Int) (N : Int) q (t : Int) τ = some v ∧ (v = -1 ∨ 0 ≤ v ∧ v < (N : Int)) := by
  intro j
  induction j with
  | zero =>
    intro fu fu2 t g1 g2 g3
    obtain ⟨fu, rfl⟩ : ∃ n2, fu = n2 + 1 := ⟨fu - 1, by omega⟩
    obtain ⟨fu2, rfl⟩ : ∃ n2, fu2 = n2 + 1 := ⟨fu2 - 1, by omega⟩
    exact ⟨-1, by rw [f_Table_endNamed_2.eq_2, hN, if_neg (by omega)], by rw [f_M_findIn_3.eq_2, if_neg (by omega)], Or.inl rfl⟩
  | succ j ih =>
    intro fu fu2 t g1 g2 g3
    obtain ⟨fu, rfl⟩ : ∃ n2, fu = n2 + 1 := ⟨fu - 1, by omega⟩
    obtain ⟨fu2, rfl⟩ : ∃ n2, fu2 = n2 + 1 := ⟨fu2 - 1, by omega⟩
    have c1 : (t : Int) < (N : Int) := by omega
    have c2 : (t : Int) < 6 := by omega
    have c3 : 0 ≤ (t : Int) ∧ (t : Int) < 6 := by omega
    have t1 : t < 100000 := by omega
    have c5 : 0 ≤ ((on + t : Nat) : Int) ∧ ((on + t : Nat) : Int) < 9 := by omega
    have e := NmR.eqv (hnm t (by omega)) hpq
    have c4 : w32 ((on : Int) + (t : Int)) = ((on + t : Nat) : Int) := (w32_o (by omega) (by omega)).trans (by omega)
    by_cases hz : σ (a0 + 6) t = p
    · exact ⟨(t : Int), by rw [f_Table_endNamed_2.eq_2, hN, if_pos c1, if_pos c2, if_pos c3, Int.toNat_natCast, if_pos hz], by rw [f_M_findIn_3.eq_2, if_pos c1, c4, if_pos c5, Int.toNat_natCast, if_pos (xlc_z.mpr (e.mp hz))], Or.inr ⟨by omega, c1⟩⟩
    · obtain ⟨v, v1, v2, v3⟩ := ih fu fu2 (t + 1) (by omega) (by omega) (by omega)
      exact ⟨v, by rw [f_Table_endNamed_2.eq_2, hN, if_pos c1, if_pos c2, if_pos c3, Int.toNat_natCast, if_neg hz, w32_n1 t1, xlet_s, v1], by rw [f_M_findIn_3.eq_2, if_pos c1, c4, if_pos c5, Int.toNat_natCast, if_neg (fun z => hz (e.mpr (xlc_z.mp z))), w32_n1 t1, xlet_s, v2], v3⟩
