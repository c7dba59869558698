/-! the numbers at the law's loop keep the invariant -/
def iniL0 : List (Nat × Nat) := [(111, 2), (0, 1), (7, 0), (113, 3), (7, 1), (113, 0), (7, 2), (113, 1), (111, 22), (113, 40), (16, 0), (113, 41), (16, 1), (22, 0), (113, 682), (47, 3), (120, 0), (67, 3), (120, 1), (0, 3), (111, 10), (0, 7), (111, 23), (96, 6), (111, 45), (99, 1), (0, 17), (111, 66), (104, 0), (106, 0), (48, 0), (68, 0), (48, 1), (48, 2), (68, 1), (68, 2)]
def iniL1 : List (Nat × Nat) := [(7, 3), (102, 1), (111, 48), (0, 18), (111, 69), (124, 0), (124, 1), (124, 2), (124, 3), (111, 52), (111, 58)]
def iniAt (L : List (Nat × Nat)) (v : Int) (a len : Nat) (f : Nat → xV) : Bool := L.all (fun e => bif Nat.beq e.1 a then (Nat.blt e.2 len && decide (bNum (f e.2) = v)) else true)
def iniGo : bW → Nat → Bool
  | [], a => Nat.ble 137 a
  | (_, len, f) :: W, a => iniAt iniL0 0 a len f && iniAt iniL1 (-1) a len f && iniGo W (a + 1)
def iniChk : Option bS → Bool
  | some (_, _, _, W) => iniGo W 0
  | none => false
theorem ini_ok : iniChk bLawC = true := by decide +kernel
theorem iniGo_at : ∀ (W : bW) (a : Nat), iniGo W a = true → 137 ≤ a + W.length ∧ ∀ (i kd len : Nat) (f : Nat → xV), W[i]? = some (kd, len, f) → iniAt iniL0 0 (a + i) len f = true ∧ iniAt iniL1 (-1) (a + i) len f = true := by
  intro W
  induction W with
  | nil =>
    intro a h
    exact ⟨Nat.le_of_ble_eq_true h, fun i kd len f hi => by cases hi⟩
  | cons c W ih =>
    intro a h
    obtain ⟨kd0, len0, f0⟩ := c
    have h : (iniAt iniL0 0 a len0 f0 && iniAt iniL1 (-1) a len0 f0 && iniGo W (a + 1)) = true := h
    rw [Bool.and_eq_true, Bool.and_eq_true] at h
    obtain ⟨⟨h1, h2⟩, h3⟩ := h
    obtain ⟨k1, k2⟩ := ih (a + 1) h3
    refine ⟨by rw [List.length_cons]; omega, fun i kd len f hi => ?_⟩
    cases i with
    | zero =>
      rw [List.getElem?_cons_zero] at hi
      cases hi
      exact ⟨h1, h2⟩
    | succ i =>
      rw [List.getElem?_cons_succ] at hi
      have := k2 i kd len f hi
      rw [show a + 1 + i = a + (i + 1) by omega] at this
      exact this
theorem iniAt_v {L : List (Nat × Nat)} {v : Int} {a len k : Nat} {f : Nat → xV} (h : iniAt L v a len f = true) (hm : (a, k) ∈ L) : k < len ∧ bNum (f k) = v := by
  have h1 := List.all_eq_true.mp h (a, k) hm
  have h2 : Nat.beq a a = true := Nat.beq_refl a
  simp only [h2, cond_true, Bool.and_eq_true] at h1
  exact ⟨Nat.le_of_ble_eq_true h1.1, of_decide_eq_true h1.2⟩
theorem ini_lt : (iniL0 ++ iniL1).all (fun e => Nat.blt e.1 137) = true := by decide
theorem ini_v : (∀ a k, (a, k) ∈ iniL0 → xInit a k = 0) ∧ ∀ a k, (a, k) ∈ iniL1 → xInit a k = -1 := by
  obtain ⟨W, hW, -⟩ := bLawC_ex
  have hx := xInit_of hW
  have ho := ini_ok
  rw [hW] at ho
  have ho : iniGo W 0 = true := ho
  obtain ⟨k1, k2⟩ := iniGo_at W 0 ho
  generalize xInit = σ at hx ⊢
  have hl : ∀ a k, (a, k) ∈ iniL0 ++ iniL1 → ∃ c, W[a]? = some c := by
    intro a k hm
    have h1 : Nat.blt a 137 = true := List.all_eq_true.mp ini_lt (a, k) hm
    have h2 : a < 137 := Nat.le_of_ble_eq_true h1
    exact ⟨W[a]'(by omega), List.getElem?_eq_getElem _⟩
  constructor
  · intro a k hm
    obtain ⟨⟨kd, len, f⟩, hc⟩ := hl a k (List.mem_append.mpr (Or.inl hm))
    have h1 := (k2 a kd len f hc).1
    rw [Nat.zero_add] at h1
    obtain ⟨h2, h3⟩ := iniAt_v h1 hm
    rw [hx, hc]
    show (if k < len then bNum (f k) else 0) = 0
    rw [if_pos h2, h3]
  · intro a k hm
    obtain ⟨⟨kd, len, f⟩, hc⟩ := hl a k (List.mem_append.mpr (Or.inr hm))
    have h1 := (k2 a kd len f hc).2
    rw [Nat.zero_add] at h1
    obtain ⟨h2, h3⟩ := iniAt_v h1 hm
    rw [hx, hc]
    show (if k < len then bNum (f k) else 0) = -1
    rw [if_pos h2, h3]
theorem inv_init : InvN 513 xInit := by
  obtain ⟨z, m⟩ := ini_v
  generalize xInit = σ at z m ⊢
  have z0 : σ 0 7 = 0 := z 0 7 (by decide)
  have e22 : σ 111 22 = 0 := z 111 22 (by decide)
  have e71 : σ 7 1 = 0 := z 7 1 (by decide)
  have e72 : σ 7 2 = 0 := z 7 2 (by decide)
  have e160 : σ 16 0 = 0 := z 16 0 (by decide)
  have e106 : σ 106 0 = 0 := z 106 0 (by decide)
  have e17 : σ 0 17 = 0 := z 0 17 (by decide)
  have e124 : ∀ k : Nat, k < 4 → σ 124 k = -1 := by
    intro k hk
    have h4 : k = 0 ∨ k = 1 ∨ k = 2 ∨ k = 3 := by omega
    rcases h4 with h4 | h4 | h4 | h4
    · rw [h4]; exact m 124 0 (by decide)
    · rw [h4]; exact m 124 1 (by decide)
    · rw [h4]; exact m 124 2 (by decide)
    · rw [h4]; exact m 124 3 (by decide)
  have op : opM σ = -1 := by
    unfold opM
    rw [e22, if_pos rfl]
  have q1 : C_tape σ := tape0 (z 0 1 (by decide)) (z 111 2 (by decide))
  have q2 : C_tab σ := by
    refine ⟨?_, fun _ => ⟨e71, e72⟩⟩
    rw [op]
    refine ⟨?_, ?_, ?_, ?_, ?_, ?_, ?_, ?_, by decide, ?_, ?_, ?_, fun t ht => ?_, fun t ht => ?_⟩
    · show σ 7 0 = σ 113 3
      rw [z 7 0 (by decide), z 113 3 (by decide)]
    · show σ 7 1 = σ 113 0
      rw [e71, z 113 0 (by decide)]
    · rw [e71]; decide
    · rw [e71]; decide
    · show σ 7 2 = σ 113 1
      rw [e72, z 113 1 (by decide)]
    · rw [e72]; decide
    · rw [e72]; decide
    · exact m 7 3 (by decide)
    · rw [e71]; decide
    · show 0 ≤ σ 113 40
      rw [z 113 40 (by decide)]; decide
    · show σ 113 40 < 8
      rw [z 113 40 (by decide)]; decide
    · rw [e71] at ht; omega
    · rw [e72] at ht; omega
  have q3 : C_way σ := by
    refine ⟨⟨?_, ?_, ?_, fun k hk => ?_, fun _ => z 16 1 (by decide), fun hk => ?_⟩, fun _ => e160⟩
    · show σ 16 0 = σ 113 41
      rw [e160, z 113 41 (by decide)]
    · rw [e160]; decide
    · rw [e160]; decide
    · rw [e160] at hk; omega
    · rw [e160] at hk; omega
  have e220 : σ 22 0 = 0 := z 22 0 (by decide)
  have q4 : C_sen σ := by
    refine ⟨⟨?_, ?_, Or.inl ⟨e220, z 113 682 (by decide)⟩⟩, fun _ => e220⟩
    · rw [e220]; decide
    · rw [e220]; decide
  have q5 : C_img σ := ⟨Or.inl ⟨z 47 3 (by decide), z 120 0 (by decide)⟩, Or.inl ⟨z 67 3 (by decide), z 120 1 (by decide)⟩⟩
  have q6 : C_told σ := by
    refine ⟨?_, ?_, ?_, Or.inl ⟨z 96 6 (by decide), e124⟩, Or.inl ⟨z 111 45 (by decide), z 99 1 (by decide)⟩, ?_, ?_, ?_, ?_, ?_, fun k hk => ?_⟩
    · rw [z 0 3 (by decide), z 111 10 (by decide)]
    · rw [z0, z 111 23 (by decide)]
    · rw [z0]; exact ⟨by decide, by decide⟩
    · rw [m 102 1 (by decide), m 111 48 (by decide)]
    · rw [m 0 18 (by decide), m 111 69 (by decide)]
    · rw [e17, z 111 66 (by decide)]
    · rw [e17]; decide
    · rw [e17]; decide
    · rw [e17] at hk; omega
  have q7 : C_run σ := Or.inl ⟨z 104 0 (by decide), m 111 52 (by decide)⟩
  have bs : ∀ b : Nat, σ b 0 = 0 → BsR σ b := fun b hb => ⟨by rw [hb]; decide, by rw [hb, z0]; decide, fun h1 => by rw [e106] at h1; exact absurd h1 (by decide)⟩
  have te : ∀ b c : Nat, σ b 1 = 0 → σ c 1 = 0 → σ b 2 = 0 → σ c 2 = 0 → TbE σ b c := fun b c h1 h2 h3 h4 _ => ⟨by rw [h1, h2], by rw [h3, h4], fun t ht => by omega⟩
  have q8 : C_best σ := ⟨bs 7 (z 7 0 (by decide)), bs 48 (z 48 0 (by decide)), bs 68 (z 68 0 (by decide)), Or.inl ⟨e106, m 111 58 (by decide)⟩, te 7 48 (z 7 1 (by decide)) (z 48 1 (by decide)) e72 (z 48 2 (by decide)), te 7 68 (z 7 1 (by decide)) (z 68 1 (by decide)) e72 (z 68 2 (by decide)), te 48 68 (z 48 1 (by decide)) (z 68 1 (by decide)) (z 48 2 (by decide)) (z 68 2 (by decide))⟩
  refine ⟨⟨q1, q2, q3, q4, q5, q6, q7, q8⟩, ?_⟩
  rw [z0]
  decide
