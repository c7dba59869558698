/-! ONE STEP OF THE READER IS ONE OF THE MACHINE'S -/
/-- the locals that the machine holds for the reader's -/
def lvE (ρ : Nat → Nat) (ls : xL) (i : Nat) : Option (Nat × Value) := match ls[i]? with
  | some (some v) => if isL v = true then (if ls[i + 1]? = some none then some (i, emb ρ v) else none) else some (i, emb ρ v)
  | _ => none
def lvL (ρ : Nat → Nat) (ls : xL) : List (Nat × Value) := (List.range ls.length).filterMap (lvE ρ ls)
theorem lvL_in {ρ : Nat → Nat} {ls : xL} {i : Nat} {w : Value} (h_ : lvE ρ ls i = some (i, w)) : (i, w) ∈ lvL ρ ls := by
  refine List.mem_filterMap.mpr ⟨i, List.mem_range.mpr ?_, h_⟩
  unfold lvE at h_
  cases hq_ : ls[i]? with
  | none =>
    rw [hq_] at h_
    cases h_
  | some w_ => exact (List.getElem?_eq_some_iff.mp hq_).1
theorem lvE_fst {ρ : Nat → Nat} {ls : xL} {i : Nat} {q : Nat × Value} (h_ : lvE ρ ls i = some q) : q.1 = i ∧ ∃ v, ls[i]? = some (some v) ∧ q.2 = emb ρ v ∧ (isL v = true → ls[i + 1]? = some none) := by
  unfold lvE at h_
  split at h_
  · rename_i v_ hv_
    split at h_
    · split at h_
      · rename_i hn_
        cases h_
        exact ⟨rfl, v_, hv_, rfl, fun _ => hn_⟩
      · cases h_
    · rename_i hl_
      cases h_
      exact ⟨rfl, v_, hv_, rfl, fun z_ => absurd z_ hl_⟩
  · cases h_
theorem lvE_of {ρ : Nat → Nat} {ls : xL} {i : Nat} {v : xV} (h1_ : ls[i]? = some (some v)) (h2_ : isL v = true → ls[i + 1]? = some none) : lvE ρ ls i = some (i, emb ρ v) := by
  unfold lvE
  rw [h1_]
  by_cases hl_ : isL v = true
  · simp only [if_pos hl_, if_pos (h2_ hl_)]
  · simp only [if_neg hl_]
theorem lv_more {ls : Array Slot} {nL : Nat} {l l' : List (Nat × Value)} (h_ : lv_has ls nL l) (hs_ : ∀ q ∈ l', q ∈ l) : lv_has ls nL l' := ⟨h_.1, h_.2.1, fun q hq_ => h_.2.2 q (hs_ q hq_)⟩
theorem isL_cat {ρ : Nat → Nat} {v : xV} (h_ : (emb ρ v).category = 2) : isL v = true := by
  rw [emb_cat] at h_
  unfold xcat at h_
  cases hl_ : isL v with
  | true => rfl
  | false =>
    rw [hl_] at h_
    cases h_
/-- a value of one slot is stored -/
theorem lvL_set1 {ρ : Nat → Nat} {ls : xL} {i : Nat} {v : xV} (hv_ : isL v = false) : ∀ q ∈ lvL ρ (ls.set i (some v)), q ∈ (i, emb ρ v) :: (lvL ρ ls).filter (fun q => !(q.1 == i) && !(q.1 + 1 == i && q.2.category == 2)) := by
  intro q hq_
  obtain ⟨j, hj_, hE_⟩ := List.mem_filterMap.mp hq_
  obtain ⟨hf_, w, hw_, hw2_, hw3_⟩ := lvE_fst hE_
  by_cases hji_ : j = i
  · subst hji_
    have hlt_ : j < ls.length := by simpa using List.mem_range.mp hj_
    rw [List.getElem?_set_self hlt_] at hw_
    cases hw_
    have hq1_ : q = (j, emb ρ v) := by
      rw [← hf_, ← hw2_]
    rw [hq1_]
    exact List.mem_cons_self
  · rw [List.getElem?_set_ne (Ne.symm hji_)] at hw_
    have hnext_ : isL w = true → ls[j + 1]? = some none ∧ j + 1 ≠ i := by
      intro hl_
      have h3_ := hw3_ hl_
      by_cases hk_ : j + 1 = i
      · rw [← hk_] at h3_
        have hlt_ : j + 1 < (ls.set (j + 1) (some v)).length := (List.getElem?_eq_some_iff.mp h3_).1
        rw [List.getElem?_set_self (by simpa using hlt_)] at h3_
        cases h3_
      · rw [List.getElem?_set_ne (Ne.symm hk_)] at h3_
        exact ⟨h3_, hk_⟩
    refine List.mem_cons_of_mem _ (List.mem_filter.mpr ⟨?_, ?_⟩)
    · have hq1_ : q = (j, emb ρ w) := by rw [← hf_, ← hw2_]
      rw [hq1_]
      exact lvL_in (lvE_of hw_ (fun z_ => (hnext_ z_).1))
    · rw [hf_, hw2_]
      have hne_ : (j == i) = false := by simpa using hji_
      rw [hne_]
      by_cases hk_ : j + 1 = i
      · have hc_ : ¬ (emb ρ w).category = 2 := fun z_ => (hnext_ (isL_cat z_)).2 hk_
        simp [hc_]
      · simp [hk_]
/-- a long is stored -/
theorem lvL_set2 {ρ : Nat → Nat} {ls : xL} {i : Nat} {v : xV} (hi_ : i + 1 < ls.length) : ∀ q ∈ lvL ρ ((ls.set i (some v)).set (i + 1) none), q ∈ (i, emb ρ v) :: (lvL ρ ls).filter (fun q => !(q.1 == i) && (!(q.1 == i + 1) && !(q.1 + 1 == i && q.2.category == 2))) := by
  intro q hq_
  obtain ⟨j, hj_, hE_⟩ := List.mem_filterMap.mp hq_
  obtain ⟨hf_, w, hw_, hw2_, hw3_⟩ := lvE_fst hE_
  have hj1_ : j ≠ i + 1 := by
    intro z_
    rw [z_, List.getElem?_set_self (by simpa using hi_)] at hw_
    cases hw_
  rw [List.getElem?_set_ne (Ne.symm hj1_)] at hw_
  by_cases hji_ : j = i
  · subst hji_
    rw [List.getElem?_set_self (by omega)] at hw_
    cases hw_
    have hq1_ : q = (j, emb ρ v) := by rw [← hf_, ← hw2_]
    rw [hq1_]
    exact List.mem_cons_self
  · rw [List.getElem?_set_ne (Ne.symm hji_)] at hw_
    have hnext_ : isL w = true → ls[j + 1]? = some none ∧ j + 1 ≠ i := by
      intro hl_
      have h3_ := hw3_ hl_
      by_cases hk_ : j + 1 = i
      · rw [hk_, List.getElem?_set_ne (by omega), List.getElem?_set_self (by omega)] at h3_
        cases h3_
      · have hk2_ : j + 1 ≠ i + 1 := fun z_ => hji_ (by omega)
        rw [List.getElem?_set_ne (Ne.symm hk2_), List.getElem?_set_ne (Ne.symm hk_)] at h3_
        exact ⟨h3_, hk_⟩
    refine List.mem_cons_of_mem _ (List.mem_filter.mpr ⟨?_, ?_⟩)
    · have hq1_ : q = (j, emb ρ w) := by rw [← hf_, ← hw2_]
      rw [hq1_]
      exact lvL_in (lvE_of hw_ (fun z_ => (hnext_ z_).1))
    · rw [hf_, hw2_]
      have hne_ : (j == i) = false := by simpa using hji_
      have hne1_ : (j == i + 1) = false := by simpa using hj1_
      rw [hne_, hne1_]
      by_cases hk_ : j + 1 = i
      · have hc_ : ¬ (emb ρ w).category = 2 := fun z_ => (hnext_ (isL_cat z_)).2 hk_
        simp [hc_]
      · simp [hk_]
theorem ldI_at {ρ : Nat → Nat} {ls : xL} {i : Nat} {x : Int} (h_ : ldI ls i = some x) : ls[i]? = some (some (vI x)) := by
  unfold ldI at h_
  split at h_
  · rename_i hq_
    cases h_
    exact hq_
  · cases h_
theorem ldR_at {ls : xL} {i : Nat} {r : Option Nat} (h_ : ldR ls i = some r) : ls[i]? = some (some (.inr (.inr r))) := by
  unfold ldR at h_
  split at h_
  · rename_i hq_
    cases h_
    exact hq_
  · cases h_
theorem ldL_at {ls : xL} {i : Nat} {x : Int} (h_ : ldL ls i = some x) : ls[i]? = some (some (vL x)) ∧ ls[i + 1]? = some none := by
  unfold ldL at h_
  split at h_
  · rename_i hq_
    split at h_
    · rename_i hn_
      cases h_
      exact ⟨hq_, hn_⟩
    · cases h_
  · cases h_
/-- what holds between the reader and the machine at a place -/
def RS (cs ρ : Nat → Nat) (dC : Nat → ClassId) (dI : Nat → Nat → Nat) (A : Nat → Prop) (H0 : Heap) (nL : Nat) (s : xS) (H : Heap) (locs : List Loc) (real : Array Slot) : Prop :=
  va_P (dC, dI) vwCl (wd cs ρ s.2.2.2) H ∧ va_S A H0 H locs ∧ InR s.2.2.2 ∧ lv_has real nL (lvL ρ s.2.1) ∧ s.2.1.length = nL ∧ (∀ v, some v ∈ s.2.1 → okV v) ∧ ∀ v ∈ s.2.2.1, okV v
/-- the goal: from the machine's place that stands for s -/
def WS (p : Program) (l : Launch) (e : Env) (R : Room) (s : State) (m : MethodId) (args : Array Value) (below : List Frame) (meth : Method) (c : Code) (cells slots : Nat) (Q : State → Prop)
    (cs ρ : Nat → Nat) (dC : Nat → ClassId) (dI : Nat → Nat → Nat) (A : Nat → Prop) (H0 : Heap) (nL : Nat) (q : xS) : Prop :=
  ∀ (H : Heap) (locs : List Loc) (real : Array Slot), RS cs ρ dC dI A H0 nL q H locs real → W p l e R s m args below meth c H locs cells slots Q (F0 m q.1 real (q.2.2.1.map (emb ρ)))
