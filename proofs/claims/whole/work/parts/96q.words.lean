/-! TOKENS: letters as lists -/
def ltr (d : Nat → Int) (q m : Nat) : List Nat := (List.range m).map (fun i => (d (q + i) - 96).toNat)
theorem ltr_ok {d : Nat → Int} {q : Nat} {b : Nat} : ∀ m : Nat, cD d q m = 0 → lv (b : Int) d q m = (pkN b (ltr d q m) : Int) ∧ (ltr d q m).length = m ∧ ∀ c ∈ ltr d q m, 1 ≤ c ∧ c ≤ 26 := by
  intro m
  induction m with
  | zero => exact fun _ => ⟨rfl, rfl, fun c hc => by cases hc⟩
  | succ m ih =>
    intro h
    have e2 : cD d q (m + 1) = cD d q m + (if kL (d (q + m)) = true then 0 else 1) := rfl
    have hk : kL (d (q + m)) = true := by
      by_cases z : kL (d (q + m)) = true
      · exact z
      · rw [if_neg z] at e2
        omega
    rw [if_pos hk] at e2
    obtain ⟨i1, i2, i3⟩ := ih (by omega)
    have hk2 := kL_i.mp hk
    have es : ltr d q (m + 1) = ltr d q m ++ [(d (q + m) - 96).toNat] := by
      unfold ltr
      rw [List.range_succ, List.map_append]
      rfl
    have e3 : lv (b : Int) d q (m + 1) = (b : Int) * lv (b : Int) d q m + (d (q + m) - 96) := rfl
    refine ⟨?_, ?_, ?_⟩
    · rw [e3, es, pkN_snoc, i1, Int.natCast_add, Int.natCast_mul, Int.mul_comm, Int.toNat_of_nonneg (by omega)]
    · rw [es, List.length_append, i2]
      rfl
    · rw [es]
      intro c hc
      rcases List.mem_append.mp hc with z | z
      · exact i3 c z
      · rw [List.mem_singleton] at z
        omega
theorem pk_inj {b : Nat} (hb : 27 ≤ b) : ∀ r r' : List Nat, (∀ c ∈ r, 1 ≤ c ∧ c ≤ 26) → (∀ c ∈ r', 1 ≤ c ∧ c ≤ 26) → pkN b r.reverse = pkN b r'.reverse → r = r' := by
  intro r
  induction r with
  | nil =>
    intro r' h h' e
    cases r' with
    | nil => rfl
    | cons c r' =>
      have hc := h' c (List.mem_cons_self ..)
      rw [pkN_rev] at e
      have e0 : pkN b ([] : List Nat).reverse = 0 := rfl
      rw [e0] at e
      omega
  | cons c r ih =>
    intro r' h h' e
    have hc := h c (List.mem_cons_self ..)
    cases r' with
    | nil =>
      rw [pkN_rev] at e
      have e0 : pkN b ([] : List Nat).reverse = 0 := rfl
      rw [e0] at e
      omega
    | cons c' r' =>
      have hc' := h' c' (List.mem_cons_self ..)
      rw [pkN_rev, pkN_rev] at e
      have m1 : (pkN b r.reverse * b + c) % b = c := by
        rw [Nat.mul_comm, Nat.mul_add_mod, Nat.mod_eq_of_lt (by omega)]
      have m2 : (pkN b r'.reverse * b + c') % b = c' := by
        rw [Nat.mul_comm, Nat.mul_add_mod, Nat.mod_eq_of_lt (by omega)]
      have hcc : c = c' := by rw [← m1, ← m2, e]
      subst hcc
      have e2 : pkN b r.reverse * b = pkN b r'.reverse * b := Nat.add_right_cancel e
      have e3 := Nat.eq_of_mul_eq_mul_right (by omega) e2
      rw [ih r' (fun x hx => h x (List.mem_cons_of_mem _ hx)) (fun x hx => h' x (List.mem_cons_of_mem _ hx)) e3]
theorem pk_inj2 {b : Nat} (hb : 27 ≤ b) {l l' : List Nat} (h : ∀ c ∈ l, 1 ≤ c ∧ c ≤ 26) (h' : ∀ c ∈ l', 1 ≤ c ∧ c ≤ 26) (e : pkN b l = pkN b l') : l = l' := by
  have := pk_inj hb l.reverse l'.reverse (fun c hc => h c (List.mem_reverse.mp hc)) (fun c hc => h' c (List.mem_reverse.mp hc)) (by rw [List.reverse_reverse, List.reverse_reverse]; exact e)
  rw [← List.reverse_reverse l, this, List.reverse_reverse]
