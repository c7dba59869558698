/-! printed by wip/whole/mk10.py: JDK calls, constants -/
def jName : Nat → MethodName
  | 1 => Lib.Math.max.name
  | 2 => Lib.Math.min.name
  | 3 => Lib.Math.abs.name
  | 4 => Lib.MathLoose.abs_long.x
  | 5 => ⟨"java/lang/String", "length", "()I"⟩
  | _ => ⟨"java/lang/String", "charAt", "(I)C"⟩
def jWE : List (Nat × Nat × Nat) := [(0, 132, 1), (2, 13, 4), (6, 52, 4), (8, 137, 1), (9, 39, 2), (9, 79, 5), (9, 85, 6), (10, 126, 1), (11, 339, 3)]
theorem jWE_ok : jWE.all (fun e => decide (Cond.methodLink (cnm e.1) e.2.1 (jName e.2.2) ∈ tables_1)) = true := by decide +kernel
theorem jWE_in : ∀ (own i : Nat) (v : Nat), mthJ own i = some v → (own, i, v) ∈ jWE := by
  intro own i v h
  match own, h with
  | 0, h => exact (show ∀ q ∈ [((132 : Nat), (1 : Nat))], (0, q.1, q.2) ∈ jWE from by decide) _ (xlk_mem h)
  | 1, h => exact nomatch h
  | 2, h => exact (show ∀ q ∈ [((13 : Nat), (4 : Nat))], (2, q.1, q.2) ∈ jWE from by decide) _ (xlk_mem h)
  | 3, h => exact nomatch h
  | 4, h => exact nomatch h
  | 5, h => exact nomatch h
  | 6, h => exact (show ∀ q ∈ [((52 : Nat), (4 : Nat))], (6, q.1, q.2) ∈ jWE from by decide) _ (xlk_mem h)
  | 7, h => exact nomatch h
  | 8, h => exact (show ∀ q ∈ [((137 : Nat), (1 : Nat))], (8, q.1, q.2) ∈ jWE from by decide) _ (xlk_mem h)
  | 9, h => exact (show ∀ q ∈ [((39 : Nat), (2 : Nat)), ((79 : Nat), (5 : Nat)), ((85 : Nat), (6 : Nat))], (9, q.1, q.2) ∈ jWE from by decide) _ (xlk_mem h)
  | 10, h => exact (show ∀ q ∈ [((126 : Nat), (1 : Nat))], (10, q.1, q.2) ∈ jWE from by decide) _ (xlk_mem h)
  | 11, h => exact (show ∀ q ∈ [((339 : Nat), (3 : Nat))], (11, q.1, q.2) ∈ jWE from by decide) _ (xlk_mem h)
  | 12, h => exact nomatch h
  | 13, h => exact nomatch h
  | n + 14, h => exact nomatch h
def kIE : List (Nat × Nat × Int) := [(10, 62, 1279278), (11, 382, 1103515245), (12, 502, 1103515245)]
theorem kIE_ok : kIE.all (fun e => decide (Cond.constant (cnm e.1) e.2.1 (Int32.ofInt e.2.2) ∈ tables_1) && decide (-2147483648 ≤ e.2.2 ∧ e.2.2 < 2147483648)) = true := by decide +kernel
theorem kIE_in : ∀ (own i : Nat) (v : Int), kInt own i = some v → (own, i, v) ∈ kIE := by
  intro own i v h
  match own, h with
  | 0, h => exact nomatch h
  | 1, h => exact nomatch h
  | 2, h => exact nomatch h
  | 3, h => exact nomatch h
  | 4, h => exact nomatch h
  | 5, h => exact nomatch h
  | 6, h => exact nomatch h
  | 7, h => exact nomatch h
  | 8, h => exact nomatch h
  | 9, h => exact nomatch h
  | 10, h => exact (show ∀ q ∈ [((62 : Nat), (1279278 : Int))], (10, q.1, q.2) ∈ kIE from by decide) _ (xlk_mem h)
  | 11, h => exact (show ∀ q ∈ [((382 : Nat), (1103515245 : Int))], (11, q.1, q.2) ∈ kIE from by decide) _ (xlk_mem h)
  | 12, h => exact (show ∀ q ∈ [((502 : Nat), (1103515245 : Int))], (12, q.1, q.2) ∈ kIE from by decide) _ (xlk_mem h)
  | 13, h => exact nomatch h
  | n + 14, h => exact nomatch h
def kLE : List (Nat × Nat × Int) := [(0, 108, 2), (12, 156, 27), (12, 158, 96), (12, 435, 2), (12, 440, 16)]
theorem kLE_ok : kLE.all (fun e => decide (Cond.constantLong (cnm e.1) e.2.1 (Int64.ofInt e.2.2) ∈ tables_1) && decide (-2147483648 ≤ e.2.2 ∧ e.2.2 < 2147483648)) = true := by decide +kernel
theorem kLE_in : ∀ (own i : Nat) (v : Int), kLong own i = some v → (own, i, v) ∈ kLE := by
  intro own i v h
  match own, h with
  | 0, h => exact (show ∀ q ∈ [((108 : Nat), (2 : Int))], (0, q.1, q.2) ∈ kLE from by decide) _ (xlk_mem h)
  | 1, h => exact nomatch h
  | 2, h => exact nomatch h
  | 3, h => exact nomatch h
  | 4, h => exact nomatch h
  | 5, h => exact nomatch h
  | 6, h => exact nomatch h
  | 7, h => exact nomatch h
  | 8, h => exact nomatch h
  | 9, h => exact nomatch h
  | 10, h => exact nomatch h
  | 11, h => exact nomatch h
  | 12, h => exact (show ∀ q ∈ [((156 : Nat), (27 : Int)), ((158 : Nat), (96 : Int)), ((435 : Nat), (2 : Int)), ((440 : Nat), (16 : Int))], (12, q.1, q.2) ∈ kLE from by decide) _ (xlk_mem h)
  | 13, h => exact nomatch h
  | n + 14, h => exact nomatch h
theorem jW_in {own i j : Nat} (h : mthJ own i = some j) : Cond.methodLink (cnm own) i (jName j) ∈ GW := by
  have h1 := List.all_eq_true.mp jWE_ok _ (jWE_in own i j h)
  exact GW_of (of_decide_eq_true h1) rfl
theorem kI_in {own i : Nat} {x : Int} (h : kInt own i = some x) : Cond.constant (cnm own) i (Int32.ofInt x) ∈ GW ∧ -2147483648 ≤ x ∧ x < 2147483648 := by
  have h1 := List.all_eq_true.mp kIE_ok _ (kIE_in own i x h)
  simp only [Bool.and_eq_true, decide_eq_true_eq] at h1
  exact ⟨GW_of h1.1 rfl, h1.2⟩
theorem kL_in {own i : Nat} {x : Int} (h : kLong own i = some x) : Cond.constantLong (cnm own) i (Int64.ofInt x) ∈ GW ∧ -2147483648 ≤ x ∧ x < 2147483648 := by
  have h1 := List.all_eq_true.mp kLE_ok _ (kLE_in own i x h)
  simp only [Bool.and_eq_true, decide_eq_true_eq] at h1
  exact ⟨GW_of h1.1 rfl, h1.2⟩
def jB : Bool := decide (Cond.initialized "java/lang/Math" ∈ tables_1) && decide (Cond.static Lib.Math.max.name ∈ tables_1) && decide (Cond.static Lib.Math.min.name ∈ tables_1) && decide (Cond.static Lib.Math.abs.name ∈ tables_1) && decide (Cond.static Lib.MathLoose.abs_long.x ∈ tables_1) && decide (Cond.code Lib.Math.max.name Lib.Math.max.code 2 (some .int) ∈ tables_1) && decide (Cond.code Lib.Math.min.name Lib.Math.min.code 2 (some .int) ∈ tables_1) && decide (Cond.code Lib.Math.abs.name Lib.Math.abs.code 1 (some .int) ∈ tables_1) && decide (Cond.code Lib.MathLoose.abs_long.x Lib.MathLoose.abs_long.code 2 (some .long) ∈ tables_1)
theorem jB_ok : jB = true := by decide +kernel
theorem jB_in : Cond.initialized "java/lang/Math" ∈ GW ∧ Cond.static Lib.Math.max.name ∈ GW ∧ Cond.static Lib.Math.min.name ∈ GW ∧ Cond.static Lib.Math.abs.name ∈ GW ∧ Cond.static Lib.MathLoose.abs_long.x ∈ GW ∧ Cond.code Lib.Math.max.name Lib.Math.max.code 2 (some .int) ∈ GW ∧ Cond.code Lib.Math.min.name Lib.Math.min.code 2 (some .int) ∈ GW ∧ Cond.code Lib.Math.abs.name Lib.Math.abs.code 1 (some .int) ∈ GW ∧ Cond.code Lib.MathLoose.abs_long.x Lib.MathLoose.abs_long.code 2 (some .long) ∈ GW := by
  have h1 := jB_ok
  simp only [jB, Bool.and_eq_true, decide_eq_true_eq] at h1
  obtain ⟨⟨⟨⟨⟨⟨⟨⟨h1, h2⟩, h3⟩, h4⟩, h5⟩, h6⟩, h7⟩, h8⟩, h9⟩ := h1
  exact ⟨GW_of h1 rfl, GW_of h2 rfl, GW_of h3 rfl, GW_of h4 rfl, GW_of h5 rfl, GW_of h6 rfl, GW_of h7 rfl, GW_of h8 rfl, GW_of h9 rfl⟩
