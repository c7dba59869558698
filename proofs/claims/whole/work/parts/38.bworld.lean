/-! THE WORLD UNDER CONSTRUCTION, as the machine holds it -/
def bNum : xV → Int
  | .inl x => x
  | .inr (.inl x) => x
  | _ => 0
def bRef (ρ : Nat → Nat) : xV → Option Nat
  | .inr (.inr (some a)) => some (ρ a)
  | _ => none
def bE (cs ρ : Nat → Nat) (c : bC) : va_E :=
  if c.1 < 13 then .inr (c.1, (List.range c.2.1).map (fun k => emb ρ (c.2.2 k)))
  else if c.1 = 23 then .inl (cs 23, c.2.1, .inr (.inl (fun i => Int64.ofInt (bNum (c.2.2 i)))))
  else if c.1 = 24 then .inl (cs 24, c.2.1, .inr (.inr (.inr (.inr (fun i => bRef ρ (if i < c.2.1 then c.2.2 i else vN))))))
  else .inl (cs c.1, c.2.1, .inl (fun i => Int32.ofInt (bNum (c.2.2 i))))
def bwd (cs ρ : Nat → Nat) (W : bW) : va_W := W.mapIdx (fun a c => (ρ a, bE cs ρ c))
theorem bwd_at (cs ρ : Nat → Nat) (W : bW) (a : Nat) : (bwd cs ρ W)[a]? = (W[a]?).map (fun c => (ρ a, bE cs ρ c)) := by
  unfold bwd
  rw [List.getElem?_mapIdx]
theorem bwd_len (cs ρ : Nat → Nat) (W : bW) : (bwd cs ρ W).length = W.length := by
  unfold bwd
  rw [List.length_mapIdx]
theorem bwd_set (cs ρ : Nat → Nat) (W : bW) (a : Nat) (c : bC) : (bwd cs ρ W).set a (ρ a, bE cs ρ c) = bwd cs ρ (W.set a c) := by
  apply List.ext_getElem?
  intro j
  rw [bwd_at]
  by_cases hj : a = j
  · subst hj
    by_cases hl : a < W.length
    · rw [List.getElem?_set_self (by rw [bwd_len]; exact hl), List.getElem?_set_self hl]
      rfl
    · rw [List.getElem?_eq_none (by rw [List.length_set, bwd_len]; omega), List.getElem?_eq_none (by rw [List.length_set]; omega)]
      rfl
  · rw [List.getElem?_set_ne hj, List.getElem?_set_ne hj, bwd_at]
/-- the addresses, a new one at n -/
def bRho (ρ : Nat → Nat) (n q : Nat) : Nat → Nat := fun k => if k = n then q else ρ k
theorem emb_bRho {ρ : Nat → Nat} {n q : Nat} (hn : n < xNA) {v : xV} (h : bRefOk n v = true) : emb (bRho ρ n q) v = emb ρ v := by
  rcases v with x | x | _ | a
  · rfl
  · rfl
  · rfl
  · have h1 : a ≠ n := by
      intro hz
      subst hz
      unfold bRefOk at h
      simp only [Bool.or_eq_true] at h
      rcases h with h | h
      · have := Nat.le_of_ble_eq_true h
        omega
      · have := Nat.le_of_ble_eq_true h
        omega
    show Value.ref (if a = n then q else ρ a) = Value.ref (ρ a)
    rw [if_neg h1]
theorem bRef_bRho {ρ : Nat → Nat} {n q : Nat} (hn : n < xNA) {v : xV} (h : bRefOk n v = true) : bRef (bRho ρ n q) v = bRef ρ v := by
  have h1 := emb_bRho (ρ := ρ) (q := q) hn h
  rcases v with x | x | _ | a
  · rfl
  · rfl
  · rfl
  · show some ((bRho ρ n q) a) = some (ρ a)
    have h2 : Value.ref (bRho ρ n q a) = Value.ref (ρ a) := h1
    rw [Value.ref.inj h2]
theorem bE_bRho {cs ρ : Nat → Nat} {n q : Nat} (hn : n < xNA) {c : bC} (h : (!(Nat.blt c.1 13 || Nat.beq c.1 24) || (List.range c.2.1).all (fun k => bRefOk n (c.2.2 k))) = true) : bE cs (bRho ρ n q) c = bE cs ρ c := by
  unfold bE
  by_cases h1 : c.1 < 13
  · rw [if_pos h1, if_pos h1]
    have hb : Nat.blt c.1 13 = true := Nat.ble_eq_true_of_le h1
    rw [hb] at h
    simp only [Bool.true_or, Bool.not_true, Bool.false_or] at h
    congr 2
    apply List.map_congr_left
    intro k hk
    exact emb_bRho hn (List.all_eq_true.mp h k hk)
  · rw [if_neg h1, if_neg h1]
    by_cases h2 : c.1 = 23
    · rw [if_pos h2, if_pos h2]
    · rw [if_neg h2, if_neg h2]
      by_cases h3 : c.1 = 24
      · rw [if_pos h3, if_pos h3]
        have hb : Nat.beq c.1 24 = true := by rw [h3]; rfl
        rw [hb] at h
        simp only [Bool.or_true, Bool.not_true, Bool.false_or] at h
        have hf : (fun i => bRef (bRho ρ n q) (if i < c.2.1 then c.2.2 i else vN)) = (fun i => bRef ρ (if i < c.2.1 then c.2.2 i else vN)) := by
          funext i
          by_cases hi : i < c.2.1
          · rw [if_pos hi]
            exact bRef_bRho hn (List.all_eq_true.mp h i (List.mem_range.mpr hi))
          · rw [if_neg hi]
            rfl
        rw [hf]
      · rw [if_neg h3, if_neg h3]
theorem bwd_push {cs ρ : Nat → Nat} {W : bW} {q : Nat} {c : bC} (hn : W.length < xNA) (hW : bWOk W = true) : bwd cs ρ W ++ [(q, bE cs (bRho ρ W.length q) c)] = bwd cs (bRho ρ W.length q) (W ++ [c]) := by
  apply List.ext_getElem?
  intro j
  rw [bwd_at]
  by_cases hj : j < W.length
  · rw [List.getElem?_append_left (by rw [bwd_len]; exact hj), List.getElem?_append_left hj, bwd_at]
    cases hc : W[j]? with
    | none => rfl
    | some d =>
      have h1 : bRho ρ W.length q j = ρ j := if_neg (by omega)
      have h2 := List.all_eq_true.mp hW d (List.mem_of_getElem? hc)
      show some (ρ j, bE cs ρ d) = some (bRho ρ W.length q j, bE cs (bRho ρ W.length q) d)
      rw [h1, bE_bRho hn h2]
  · rw [List.getElem?_append_right (by rw [bwd_len]; omega), List.getElem?_append_right (by omega), bwd_len]
    by_cases he : j = W.length
    · subst he
      simp [bRho]
    · rw [List.getElem?_eq_none (by simp; omega), List.getElem?_eq_none (by simp; omega)]
      rfl
theorem emb_bRho_st {ρ : Nat → Nat} {n q : Nat} (hn : n < xNA) {ls : xL} {st : List xV} (h : bFrOk n ls st = true) : st.map (emb (bRho ρ n q)) = st.map (emb ρ) := by
  unfold bFrOk at h
  simp only [Bool.and_eq_true] at h
  exact List.map_congr_left (fun v hv => emb_bRho hn (List.all_eq_true.mp h.2 v hv))
theorem lvL_bRho {ρ : Nat → Nat} {n q : Nat} (hn : n < xNA) {ls : xL} {st : List xV} (h : bFrOk n ls st = true) : lvL (bRho ρ n q) ls = lvL ρ ls := by
  unfold bFrOk at h
  simp only [Bool.and_eq_true] at h
  unfold lvL
  congr 1
  funext i
  unfold lvE
  split
  · rename_i v hv
    have h1 := List.all_eq_true.mp h.1 _ (List.mem_of_getElem? hv)
    rw [emb_bRho hn h1]
  · rfl
