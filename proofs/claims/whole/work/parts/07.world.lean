/-! THE WORLD: what the heap of the machine is, for the reader's numbers -/
def emb (ρ : Nat → Nat) : xV → Value
  | .inl x => .int (Int32.ofInt x)
  | .inr (.inl x) => .long (Int64.ofInt x)
  | .inr (.inr none) => .null
  | .inr (.inr (some a)) => .ref (ρ a)
theorem emb_cat (ρ : Nat → Nat) (v : xV) : (emb ρ v).category = xcat v := by
  rcases v with x | x | _ | a <;> rfl
theorem emb_sum (ρ : Nat → Nat) (st : List xV) : ((st.map (emb ρ)).map fun v => v.category).sum = (st.map xcat).sum := by
  rw [List.map_map]
  congr 1
  exact List.map_congr_left (fun v _ => emb_cat ρ v)
/-- what stands at a relative address -/
def cellE (cs ρ : Nat → Nat) (σ : xSt) (a : Nat) : va_E :=
  if (lay a).1 < 13 then .inr ((lay a).1, (List.range (nf (lay a).1)).map (fun k => emb ρ (fval (lay a).1 k a σ)))
  else if (lay a).1 = 23 then .inl (cs 23, (lay a).2, .inr (.inl (fun i => Int64.ofInt (σ a i))))
  else if (lay a).1 = 24 then .inl (cs 24, (lay a).2, .inr (.inr (.inr (.inr (fun i => some (ρ (imref i)))))))
  else .inl (cs (lay a).1, (lay a).2, .inl (fun i => Int32.ofInt (σ a i)))
def wd (cs ρ : Nat → Nat) (σ : xSt) : va_W := (List.range xNA).map (fun a => (ρ a, cellE cs ρ σ a))
def wtys (cs : Nat → Nat) : List (ClassId × FieldType) := [(cs 20, .byte), (cs 21, .boolean), (cs 22, .int), (cs 23, .long), (cs 24, .object "BentPenny$State")]
/-- the addresses that a method may write -/
def AW (ρ : Nat → Nat) (sz : Nat) : Nat → Prop := fun q => (∃ a, a < xNA ∧ q = ρ a) ∨ sz ≤ q
theorem wd_at (cs ρ : Nat → Nat) (σ : xSt) {a : Nat} (h : a < xNA) : (wd cs ρ σ)[a]? = some (ρ a, cellE cs ρ σ a) := by
  simp [wd, List.getElem?_map, List.getElem?_range h]
theorem wd_inv {cs ρ : Nat → Nat} {σ : xSt} {k : Nat} {q : Nat × va_E} (h : (wd cs ρ σ)[k]? = some q) : k < xNA ∧ q = (ρ k, cellE cs ρ σ k) := by
  have hk : k < xNA := by
    have := (List.getElem?_eq_some_iff.mp h).1
    simpa [wd] using this
  rw [wd_at cs ρ σ hk] at h
  exact ⟨hk, (Option.some.inj h).symm⟩
theorem wd_D {cs ρ : Nat → Nat} {σ : xSt} {A : Nat → Prop} (hi : ∀ a b, a < xNA → b < xNA → ρ a = ρ b → a = b) (hA : ∀ a, a < xNA → A (ρ a)) : va_D A (wd cs ρ σ) := by
  refine ⟨fun i j p q hp hq h => ?_, fun k q hq => ?_⟩
  · obtain ⟨h1, rfl⟩ := wd_inv hp
    obtain ⟨h2, rfl⟩ := wd_inv hq
    exact hi i j h1 h2 h
  · obtain ⟨h1, rfl⟩ := wd_inv hq
    exact hA k h1
theorem cellE_obj (cs ρ : Nat → Nat) (σ : xSt) {a : Nat} (h : (lay a).1 < 13) : cellE cs ρ σ a = .inr ((lay a).1, (List.range (nf (lay a).1)).map (fun k => emb ρ (fval (lay a).1 k a σ))) := by
  unfold cellE
  rw [if_pos h]
theorem cellE_long (cs ρ : Nat → Nat) (σ : xSt) {a : Nat} (h : (lay a).1 = 23) : cellE cs ρ σ a = .inl (cs 23, (lay a).2, .inr (.inl (fun i => Int64.ofInt (σ a i)))) := by
  unfold cellE
  rw [if_neg (by omega), if_pos h]
theorem cellE_st (cs ρ : Nat → Nat) (σ : xSt) {a : Nat} (h : (lay a).1 = 24) : cellE cs ρ σ a = .inl (cs 24, (lay a).2, .inr (.inr (.inr (.inr (fun i => some (ρ (imref i))))))) := by
  unfold cellE
  rw [if_neg (by omega), if_neg (by omega), if_pos h]
theorem cellE_int (cs ρ : Nat → Nat) (σ : xSt) {a : Nat} (h : (lay a).1 = 20 ∨ (lay a).1 = 21 ∨ (lay a).1 = 22) : cellE cs ρ σ a = .inl (cs (lay a).1, (lay a).2, .inl (fun i => Int32.ofInt (σ a i))) := by
  unfold cellE
  rw [if_neg (by omega), if_neg (by omega), if_neg (by omega)]
/-- a cell that isn't at a stays -/
theorem cellE_ne (cs ρ : Nat → Nat) (σ : xSt) {a b k : Nat} {v : Int} (h : b ≠ a) : cellE cs ρ (upS σ a k v) b = cellE cs ρ σ b := by
  have h1 : ∀ i, upS σ a k v b i = σ b i := fun i => if_neg (fun q => h q.1)
  unfold cellE
  simp only [h1]
  have h2 : ∀ c j, fval c j b (upS σ a k v) = fval c j b σ := fun c j => by
    unfold fval
    rw [h1]
  simp only [h2]
theorem wd_set (cs ρ : Nat → Nat) (σ : xSt) {a k : Nat} {v : Int} {e : va_E} (ha : a < xNA) (he : cellE cs ρ (upS σ a k v) a = e) : (wd cs ρ σ).set a (ρ a, e) = wd cs ρ (upS σ a k v) := by
  apply List.ext_getElem?
  intro j
  by_cases hj : j = a
  · subst hj
    have hl : j < (wd cs ρ σ).length := by simpa [wd] using ha
    rw [List.getElem?_set_self hl, wd_at _ _ _ ha, he]
  · rw [List.getElem?_set_ne (Ne.symm hj)]
    by_cases hn : j < xNA
    · rw [wd_at _ _ _ hn, wd_at _ _ _ hn, cellE_ne cs ρ σ hj]
    · have h1 : (wd cs ρ σ)[j]? = none := by
        apply List.getElem?_eq_none
        simp only [wd, List.length_map, List.length_range]
        omega
      have h2 : (wd cs ρ (upS σ a k v))[j]? = none := by
        apply List.getElem?_eq_none
        simp only [wd, List.length_map, List.length_range]
        omega
      rw [h1, h2]
/-- the numbers of a row, one changed -/
theorem rowI_set (σ : xSt) (a i : Nat) (v : Int) : (fun j => Int32.ofInt (upS σ a i v a j)) = upd (fun j => Int32.ofInt (σ a j)) i (Int32.ofInt v) := by
  funext j
  unfold upS upd
  by_cases h : j = i
  · rw [if_pos ⟨rfl, h⟩, if_pos h]
  · rw [if_neg (fun q => h q.2), if_neg h]
theorem rowL_set (σ : xSt) (a i : Nat) (v : Int) : (fun j => Int64.ofInt (upS σ a i v a j)) = vp_updL (fun j => Int64.ofInt (σ a j)) i (Int64.ofInt v) := by
  funext j
  unfold upS vp_updL
  by_cases h : j = i
  · rw [if_pos ⟨rfl, h⟩, if_pos h]
  · rw [if_neg (fun q => h q.2), if_neg h]
theorem fval_put {ci k a : Nat} {σ : xSt} {v : xV} {x : Int} (h : fput ci k v = some x) (j : Nat) : fval ci j a (upS σ a k x) = if j = k then v else fval ci j a σ := by
  unfold fput at h
  unfold fval
  by_cases hj : j = k
  · subst hj
    rw [if_pos rfl]
    have hu : upS σ a j x a j = x := if_pos ⟨rfl, rfl⟩
    split at h
    · rename_i e
      cases h
      simp only [e, hu]
    · rename_i e
      cases h
      simp only [e, hu]
    · rename_i y e
      cases hb : (decide (y = 0) || decide (y = 1)) with
      | true =>
        rw [hb] at h
        cases h
        simp only [e, hu]
      | false =>
        rw [hb] at h
        cases h
    · cases h
  · rw [if_neg hj]
    have hu : upS σ a k x a j = σ a j := if_neg (fun q => hj q.2)
    rw [hu]
theorem cellE_put (cs ρ : Nat → Nat) (σ : xSt) {a k : Nat} {v : xV} {x : Int} (h : (lay a).1 < 13) (hp : fput (lay a).1 k v = some x) : cellE cs ρ (upS σ a k x) a = .inr ((lay a).1, ((List.range (nf (lay a).1)).map (fun j => emb ρ (fval (lay a).1 j a σ))).set k (emb ρ v)) := by
  rw [cellE_obj cs ρ _ h]
  congr 2
  apply List.ext_getElem?
  intro j
  by_cases hj : j < nf (lay a).1
  · by_cases hk : j = k
    · subst hk
      rw [List.getElem?_set_self (by simpa using hj)]
      simp [List.getElem?_map, List.getElem?_range hj, fval_put hp]
    · rw [List.getElem?_set_ne (Ne.symm hk)]
      simp [List.getElem?_map, List.getElem?_range hj, fval_put hp, hk]
  · have e1 : nf (lay a).1 ≤ j := by omega
    rw [List.getElem?_eq_none (by simpa using e1), List.getElem?_eq_none (by simpa using e1)]
/-! ranges -/
def in32 (x : Int) : Prop := -2147483648 ≤ x ∧ x < 2147483648
def in64 (x : Int) : Prop := -9223372036854775808 ≤ x ∧ x < 9223372036854775808
def isLg (a k : Nat) : Bool := Nat.beq (lay a).1 23 || (Nat.blt (lay a).1 13 && Nat.beq (fty (lay a).1 k) 1)
def InR (σ : xSt) : Prop := ∀ a k, if isLg a k = true then in64 (σ a k) else in32 (σ a k)
def okV : xV → Prop
  | .inl x => in32 x
  | .inr (.inl x) => in64 x
  | _ => True
theorem w32_in (x : Int) : in32 (w32 x) := by
  unfold in32 w32
  exact ⟨by have := Int.le_bmod (x := x) (m := 4294967296) (by decide); omega, by have := Int.bmod_lt (x := x) (m := 4294967296) (by decide); omega⟩
theorem w64_in (x : Int) : in64 (w64 x) := by
  unfold in64 w64
  exact ⟨by have := Int.le_bmod (x := x) (m := 18446744073709551616) (by decide); omega, by have := Int.bmod_lt (x := x) (m := 18446744073709551616) (by decide); omega⟩
theorem w8_in (x : Int) : in32 (w8 x) := by
  unfold in32 w8
  exact ⟨by have := Int.le_bmod (x := x) (m := 256) (by decide); omega, by have := Int.bmod_lt (x := x) (m := 256) (by decide); omega⟩
theorem w32_id {x : Int} (h : in32 x) : w32 x = x := Int.bmod_eq_of_le (by have := h.1; omega) (by have := h.2; omega)
theorem w64_id {x : Int} (h : in64 x) : w64 x = x := Int.bmod_eq_of_le (by have := h.1; omega) (by have := h.2; omega)
theorem i32_in (x : Int32) : in32 x.toInt := ⟨by have := Int32.le_toInt x; omega, by have := Int32.toInt_lt x; omega⟩
theorem i64_in (x : Int64) : in64 x.toInt := ⟨by have := Int64.le_toInt x; omega, by have := Int64.toInt_lt x; omega⟩
theorem i32_of {x : Int} (h : in32 x) : (Int32.ofInt x).toInt = x := by rw [Int32.toInt_ofInt]; exact w32_id h
theorem i64_of {x : Int} (h : in64 x) : (Int64.ofInt x).toInt = x := by rw [Int64.toInt_ofInt]; exact w64_id h
theorem i32_eq {x y : Int} (hx : in32 x) (hy : in32 y) : Int32.ofInt x = Int32.ofInt y ↔ x = y := by
  rw [← Int32.toInt_inj, i32_of hx, i32_of hy]
theorem i64_eq {x y : Int} (hx : in64 x) (hy : in64 y) : Int64.ofInt x = Int64.ofInt y ↔ x = y := by
  rw [← Int64.toInt_inj, i64_of hx, i64_of hy]
theorem i32_lt {x y : Int} (hx : in32 x) (hy : in32 y) : Int32.ofInt x < Int32.ofInt y ↔ x < y := by
  rw [Int32.lt_iff_toInt_lt, i32_of hx, i32_of hy]
theorem i32_le {x y : Int} (hx : in32 x) (hy : in32 y) : Int32.ofInt x ≤ Int32.ofInt y ↔ x ≤ y := by
  rw [Int32.le_iff_toInt_le, i32_of hx, i32_of hy]
theorem i64_lt {x y : Int} (hx : in64 x) (hy : in64 y) : Int64.ofInt x < Int64.ofInt y ↔ x < y := by
  rw [Int64.lt_iff_toInt_lt, i64_of hx, i64_of hy]
theorem i64_le {x y : Int} (hx : in64 x) (hy : in64 y) : Int64.ofInt x ≤ Int64.ofInt y ↔ x ≤ y := by
  rw [Int64.le_iff_toInt_le, i64_of hx, i64_of hy]
theorem o32_in (f : Int32 → Int32 → Int32) (x y : Int) : in32 (o32 f x y) := i32_in _
-- longs
theorem o64_in (f : Int64 → Int64 → Int64) (x y : Int) : in64 (o64 f x y) := i64_in _
theorem o32_of (f : Int32 → Int32 → Int32) (x y : Int) : Int32.ofInt (o32 f x y) = f (Int32.ofInt x) (Int32.ofInt y) := Int32.ofInt_toInt _
theorem o64_of (f : Int64 → Int64 → Int64) (x y : Int) : Int64.ofInt (o64 f x y) = f (Int64.ofInt x) (Int64.ofInt y) := Int64.ofInt_toInt _
