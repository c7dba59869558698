/-! printed by wip/whole/mk46.py: the world at the law's loop; what the start gives -/
theorem arrV_ext {cI : ClassId} {N : Nat} {f g : Nat → Value} (h : ∀ j, j < N → f j = g j) : arrV cI N f = arrV cI N g := by
  unfold arrV
  congr 1
  congr 1
  funext j
  exact h j.val j.isLt
theorem bLawChk_of {o : Option bS} (h : bLawChk o = true) : ∃ W : bW, o = some (23, [some (vR xscr), some (vR 0), some (vR 111), some (vR 139), some (vI 0), none, none, none], [], W) ∧ bShape W = true ∧ bInR W = true ∧ bSl W ≤ 100000 := by
  unfold bLawChk at h
  split at h
  · rename_i pc ls W
    simp only [Bool.and_eq_true, decide_eq_true_eq] at h
    obtain ⟨⟨⟨⟨h1, h2⟩, h3⟩, h4⟩, h5⟩ := h
    have h1 := Nat.eq_of_beq_eq_true h1
    subst h1
    subst h5
    exact ⟨W, rfl, h2, h3, Nat.le_of_ble_eq_true h4⟩
  · exact nomatch h
/-- the law comes to its loop -/
theorem bLawC_ex : ∃ W : bW, bLawC = some (23, [some (vR xscr), some (vR 0), some (vR 111), some (vR 139), some (vI 0), none, none, none], [], W) ∧ bShape W = true ∧ bInR W = true ∧ bSl W ≤ 100000 := bLawChk_of bLawChk_ok
theorem xInit_of {pc : Nat} {ls : xL} {st : List xV} {W : bW} (h : bLawC = some (pc, ls, st, W)) (a k : Nat) : xInit a k = match W[a]? with
    | some (_, len, f) => if k < len then bNum (f k) else 0
    | none => 0 := by
  unfold xInit
  rw [h]
  rfl
theorem xIni_in {W : bW} {σi : xSt} (hσi : ∀ a k, σi a k = match W[a]? with
    | some (_, len, f) => if k < len then bNum (f k) else 0
    | none => 0) (hW : bInR W = true) : InR σi := by
  intro a k
  have key : -100000 ≤ σi a k ∧ σi a k < 100000 := by
    rw [hσi]
    split
    · rename_i kd len f hc
      split
      · rename_i hk
        have h1 := List.all_eq_true.mp (List.all_eq_true.mp hW _ (List.mem_of_getElem? hc)) k (List.mem_range.mpr hk)
        exact of_decide_eq_true h1
      · omega
    · omega
  split
  · exact ⟨by omega, by omega⟩
  · exact ⟨by omega, by omega⟩
theorem bwd_wd {cs ρ : Nat → Nat} {dC : Nat → ClassId} {dI : Nat → Nat → Nat} {H : Heap} {W : bW} {σi : xSt} (hσi : ∀ a k, σi a k = match W[a]? with
    | some (_, len, f) => if k < len then bNum (f k) else 0
    | none => 0) (hs : bShape W = true) (hP : va_P (dC, dI) vwCl (bwd cs ρ W) H) : va_P (dC, dI) vwCl (wd cs ρ σi) H := by
  unfold bShape at hs
  simp only [Bool.and_eq_true] at hs
  have hlen := Nat.eq_of_beq_eq_true hs.1
  intro a q hq
  obtain ⟨ha, rfl⟩ := wd_inv hq
  have h1 := List.all_eq_true.mp hs.2 a (List.mem_range.mpr ha)
  split at h1
  case h_2 => exact nomatch h1
  case h_1 kd len f hc =>
  have h2 := hP a (ρ a, bE cs ρ (kd, len, f)) (by rw [bwd_at, hc]; rfl)
  have hx : ∀ k, σi a k = if k < len then bNum (f k) else 0 := fun k => by rw [hσi, hc]
  simp only [Bool.and_eq_true] at h1
  obtain ⟨hk, h1⟩ := h1
  have hk := Nat.eq_of_beq_eq_true hk
  subst hk
  cases hb : Nat.blt (lay a).1 13 with
  | true =>
    rw [hb] at h1
    have hl13 : (lay a).1 < 13 := Nat.le_of_ble_eq_true hb
    simp only [cond_true, Bool.and_eq_true] at h1
    have hn := Nat.eq_of_beq_eq_true h1.1
    subst hn
    rw [cellE_obj _ _ _ hl13]
    rw [bE_obj hl13] at h2
    have he : (List.range (nf (lay a).1)).map (fun k => emb ρ (f k)) = (List.range (nf (lay a).1)).map (fun k => emb ρ (fval (lay a).1 k a σi)) := by
      apply List.map_congr_left
      intro k hk
      have h3 := List.all_eq_true.mp h1.2 k hk
      have hkl := List.mem_range.mp hk
      have hxk := hx k
      rw [if_pos hkl] at hxk
      congr 1
      unfold fval
      split at h3
      · rename_i x hf
        rw [hf] at hxk
        simp only [Bool.or_eq_true] at h3
        rw [hf, hxk]
        rcases h3 with h3 | h3
        · rw [Nat.eq_of_beq_eq_true h3]
          rfl
        · rw [Nat.eq_of_beq_eq_true h3]
          rfl
      · rename_i x hf
        rw [hf] at hxk
        rw [hf, hxk, Nat.eq_of_beq_eq_true h3]
        rfl
      · rename_i b hf
        simp only [Bool.and_eq_true] at h3
        rw [hf, Nat.eq_of_beq_eq_true h3.1, Nat.eq_of_beq_eq_true h3.2]
        rfl
      · exact nomatch h3
    rw [he] at h2
    exact h2
  | false =>
    rw [hb] at h1
    simp only [cond_false, Bool.and_eq_true] at h1
    have hn := Nat.eq_of_beq_eq_true h1.1
    subst hn
    have h13 : ¬ (lay a).1 < 13 := fun z => by
      have := Nat.ble_eq_true_of_le (n := (lay a).1 + 1) (m := 13) z
      rw [show Nat.ble ((lay a).1 + 1) 13 = Nat.blt (lay a).1 13 from rfl, hb] at this
      cases this
    by_cases h23 : (lay a).1 = 23
    · rw [cellE_long _ _ _ h23]
      rw [h23, bE_long] at h2
      have h3 : H[ρ a]? = some (vp_cell (cs 23) ((lay a).2, .inr (.inl (fun i => Int64.ofInt (bNum (f i)))))) := h2
      show H[ρ a]? = some (vp_cell (cs 23) ((lay a).2, .inr (.inl (fun i => Int64.ofInt (σi a i)))))
      rw [h3, vp_cell_l, vp_cell_l]
      congr 1
      exact arrV_ext (fun j hj => by rw [hx j, if_pos hj])
    · by_cases h24 : (lay a).1 = 24
      · rw [cellE_st _ _ _ h24]
        rw [h24, bE_ref] at h2
        rw [h24] at h1
        have h3 : H[ρ a]? = some (vp_cell (cs 24) ((lay a).2, .inr (.inr (.inr (.inr (fun i => bRef ρ (if i < (lay a).2 then f i else vN))))))) := h2
        show H[ρ a]? = some (vp_cell (cs 24) ((lay a).2, .inr (.inr (.inr (.inr (fun i => some (ρ (imref i))))))))
        rw [h3, vp_cell_q, vp_cell_q]
        congr 1
        refine arrV_ext (fun j hj => ?_)
        have h4 := List.all_eq_true.mp (show (List.range (lay a).2).all (fun i => match f i with | .inr (.inr (some b)) => Nat.beq b (imref i) | _ => false) = true from h1.2) j (List.mem_range.mpr hj)
        rw [if_pos hj]
        split at h4
        · rename_i b hf
          rw [hf, Nat.eq_of_beq_eq_true h4]
          rfl
        · exact nomatch h4
      · have hor : (lay a).1 = 20 ∨ (lay a).1 = 21 ∨ (lay a).1 = 22 := by
          have h5 := List.all_eq_true.mp lay_all a (List.mem_range.mpr ha)
          rw [hb] at h5
          simp only [Bool.false_and, Bool.false_or, Bool.and_eq_true] at h5
          have h6 := Nat.le_of_ble_eq_true h5.1.1
          have h7 := Nat.le_of_ble_eq_true h5.1.2
          omega
        rw [cellE_int _ _ _ hor]
        rw [bE_int hor] at h2
        have h3 : H[ρ a]? = some (vp_cell (cs (lay a).1) ((lay a).2, .inl (fun i => Int32.ofInt (bNum (f i))))) := h2
        show H[ρ a]? = some (vp_cell (cs (lay a).1) ((lay a).2, .inl (fun i => Int32.ofInt (σi a i))))
        rw [h3, vp_cell_i, vp_cell_i]
        congr 1
        exact arrV_ext (fun j hj => by rw [hx j, if_pos hj])
