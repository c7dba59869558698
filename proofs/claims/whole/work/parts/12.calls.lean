/-! calls and ends -/
/-- mth's methods, of a class, are in mP -/
def mthOk (L : List (Nat × (Nat × Nat × Nat))) : Bool := L.all (fun e => mP.any (fun q => Nat.beq q.1 e.2.1 && (bif Nat.beq e.2.2.2 0 then Nat.beq q.2.2.2.2 0 else !Nat.beq q.2.2.2.2 0)))
theorem mthOk_all : (mthOk mthL0 && mthOk mthL1 && mthOk mthL2 && mthOk mthL3 && mthOk mthL4 && mthOk mthL5 && mthOk mthL6 && mthOk mthL7 && mthOk mthL8 && mthOk mthL9 && mthOk mthL10 && mthOk mthL11 && mthOk mthL12) = true := by decide +kernel
theorem mthOk_of {L : List (Nat × (Nat × Nat × Nat))} {i m n v : Nat} (h : mthOk L = true) (hx : xlk L i = some (m, n, v)) : ∃ q ∈ mP, q.1 = m ∧ (v = 0 ↔ q.2.2.2.2 = 0) := by
  have h1 := List.all_eq_true.mp h _ (xlk_mem hx)
  obtain ⟨q, hq, h2⟩ := List.any_eq_true.mp h1
  simp only [Bool.and_eq_true] at h2
  refine ⟨q, hq, Nat.eq_of_beq_eq_true h2.1, ?_⟩
  have h3 := h2.2
  cases hz_ : Nat.beq v 0 with
  | true =>
    rw [hz_] at h3
    exact ⟨fun _ => Nat.eq_of_beq_eq_true h3, fun _ => Nat.eq_of_beq_eq_true hz_⟩
  | false =>
    rw [hz_] at h3
    have h4 : Nat.beq q.2.2.2.2 0 = false := by simpa using h3
    exact ⟨fun w_ => (Bool.eq_false_iff.mp hz_ (by rw [w_]; rfl)).elim, fun w_ => (Bool.eq_false_iff.mp h4 (by rw [w_]; rfl)).elim⟩
set_option maxRecDepth 20000 in
theorem mth_in {own i m n v : Nat} (ho : own < 13) (h : mth own i = some (m, n, v)) : ∃ q ∈ mP, q.1 = m ∧ (v = 0 ↔ q.2.2.2.2 = 0) := by
  have hA := mthOk_all
  simp only [Bool.and_eq_true] at hA
  obtain ⟨⟨⟨⟨⟨⟨⟨⟨⟨⟨⟨⟨h0, h1⟩, h2⟩, h3⟩, h4⟩, h5⟩, h6⟩, h7⟩, h8⟩, h9⟩, h10⟩, h11⟩, h12⟩ := hA
  match own, h with
  | 0, h => exact mthOk_of h0 h
  | 1, h => exact mthOk_of h1 h
  | 2, h => exact mthOk_of h2 h
  | 3, h => exact mthOk_of h3 h
  | 4, h => exact mthOk_of h4 h
  | 5, h => exact mthOk_of h5 h
  | 6, h => exact mthOk_of h6 h
  | 7, h => exact mthOk_of h7 h
  | 8, h => exact mthOk_of h8 h
  | 9, h => exact mthOk_of h9 h
  | 10, h => exact mthOk_of h10 h
  | 11, h => exact mthOk_of h11 h
  | 12, h => exact mthOk_of h12 h
  | n + 13, h => omega
/-- what the tables say of a method -/
theorem mP_facts {q : Nat × (Nat × Nat × Nat × Nat)} (hq : q ∈ mP) : Cond.initialized (mY q.1).cls ∈ GW ∧ (mY q.1).cls = cnm (mOwn q.1) ∧ plainName (mY q.1).cls = true ∧ mMax q.1 ≤ 17 ∧ (q.2.2.2.2 = 0 → Cond.static (mY q.1) ∈ GW) ∧ (q.2.2.2.2 ≠ 0 → Cond.instanceMethod (mY q.1) ∈ GW ∧ Cond.selects (mY q.1).cls (mY q.1) (mY q.1) ∈ GW) := by
  have h := List.all_eq_true.mp mP_ok q hq
  simp only [mPB, Bool.and_eq_true, decide_eq_true_eq] at h
  obtain ⟨⟨⟨⟨⟨h1, h2⟩, h3⟩, h4⟩, h5⟩, h6⟩ := h
  refine ⟨GW_of (wIs_mem h1) rfl, h2, h3, Nat.le_of_ble_eq_true h4, fun h0_ => ?_, fun h0_ => ?_⟩
  · rw [h0_] at h5
    exact GW_of (wIs_mem h5) rfl
  · have hb0_ : Nat.beq q.2.2.2.2 0 = false := Bool.eq_false_iff.mpr (fun z_ => h0_ (Nat.eq_of_beq_eq_true z_))
    rw [hb0_] at h5 h6
    refine ⟨GW_of (wIs_mem h5) rfl, ?_⟩
    cases hb1_ : Nat.beq q.2.2.2.2 1 with
    | true =>
      rw [hb1_] at h6
      have h7 : (k2_sels lw_privs)[q.2.2.1]? = some (.selects (mY q.1).cls (mY q.1) (mY q.1)) := of_decide_eq_true h6
      exact List.mem_filter.mpr ⟨List.mem_append_left _ (List.mem_of_getElem? h7), rfl⟩
    | false =>
      rw [hb1_] at h6
      exact GW_of (wIs_mem h6) rfl
section CALLS
variable {p : Program} {l : Launch} {e : Env} {R : Room} {s : State} {m : MethodId} {args : Array Value} {below : List Frame} {meth : Method} {c : Code} {H : Heap} {locs : List Loc} {cells slots mc ms : Nat} {Q : State → Prop}
/-- behind a call, whatever its end is called -/
theorem x_call {Qa : State → Outcome → State → Prop} {free : Addr → Prop} {pc : Nat} {ls : Array Slot} {st0 rest : List Value} {A : Nat → Prop} {H0 : Heap} (hr : va_Run p l e R s m args below meth c H locs cells slots mc ms (F0 m pc ls st0) rest Qa free) (hS : va_S A H0 H locs) (hf : ∀ q, free q → A q)
    (kk : ∀ (v : Option Value) (st t : State) (H1 : Heap) (locs1 : List Loc), st.heap = H → t.heap = H1 → s.vm.Alike t.vm → Qa st (.returned v) t → (∀ l ∈ locs1, A l.base) → W p l e R s m args below meth c H1 locs1 (cells + mc) (slots + ms) Q (F0 m (pc + 3) ls (v.toList ++ rest))) : W p l e R s m args below meth c H locs cells slots Q (F0 m pc ls st0) := by
  intro T hT X
  obtain ⟨v, st₀, t, T', L, h0, X', hL, e1, e2, hq, st⟩ := hr T hT X
  obtain ⟨t2, a1, b1⟩ := kk v st₀ t T'.heap (locs ++ L) h0 e1.symm (by rw [← e2]; exact X'.warmed.alike) hq (fun q hq => by
      rcases List.mem_append.mp hq with h | h
      · exact hS.2.2 q h
      · exact hf _ (hL q h)) T' rfl X'
  exact ⟨t2, st t2 a1, b1⟩
end CALLS
/-- texts of the class files and the JDK's statics, as the machine holds them -/
def xByt : List (List Int32) := xTxt.map (fun l => l.map Int32.ofNat)
def StrEnv (ρ adV : Nat → Nat) (A : Nat → Prop) (s : State) : Prop :=
  (∀ own i k, kStr own i = some k → ∃ tx, vk_R (cnm own) i tx (ρ (xstr0 + k)) s) ∧ vk_S 15 (xTxt.map List.length) xByt (fun k => ρ (xstr0 + k)) adV A s s.heap ∧
  va_Z "java/lang/String" "COMPACT_STRINGS" "Z" (.int 1) A s s.heap ∧ va_Zq "jdk/internal/util/Preconditions" "SIOOBE_FORMATTER" "Ljava/util/function/BiFunction;" A s s.heap
/-- the room of a method of depth d -/
def rmD (d : Nat) : Room := { frames := d + 8, cells := 0, slots := 0, locals := 36 * d + 200 }
/-- a method's start -/
def PcG (cs ρ adV : Nat → Nat) (dC : Nat → ClassId) (dI : Nat → Nat → Nat) (as : List xV) (σ : xSt) (sz : Nat) : Array Value → State → Prop :=
  va_Pc (as.map (emb ρ)) (fun U => U.heap.size = sz ∧ va_P (dC, dI) vwCl (wd cs ρ σ) U.heap ∧ va_K (dC, dI) vwCl (wtys cs) U ∧ NWs U ∧ StrEnv ρ adV (AW ρ sz) U)
/-- a method's end -/
def QcG (cs ρ : Nat → Nat) (dC : Nat → ClassId) (dI : Nat → Nat → Nat) (r : Option xV) (σ' : xSt) (A : Nat → Prop) : Array Value → State → Outcome → State → Prop :=
  fun _ st oc t => oc = .returned (r.map (emb ρ)) ∧ va_P (dC, dI) vwCl (wd cs ρ σ') t.heap ∧ va_F A st t ∧ InR σ' ∧ ∀ w, r = some w → okV w
theorem NWs.warm {s U : State} (hW : s.WarmedH U.vm) (h : NWs s) : NWs U := by
  intro w hw hn
  have h1 := h w hw hn
  cases w <;> first | (exact absurd hn Bool.false_ne_true) | exact va_Nw.warmF hW h1 | exact va_Nw.warmM hW h1
theorem NWs.same {s U : State} (hv : s.vm = U.vm) (h : NWs s) : NWs U := by
  intro w hw hn
  have h1 := h w hw hn
  cases w <;> first | (exact absurd hn Bool.false_ne_true) | exact va_Nw.same rfl hv h1
theorem StrEnv.callee {ρ adV : Nat → Nat} {A B : Nat → Prop} {s U : State} {H : Heap} {locs : List Loc} (h : StrEnv ρ adV A s) (hW : s.WarmedH U.vm) (hU : U.heap = H) (hS : va_S A s.heap H locs) (hAB : ∀ q, B q → A q) : StrEnv ρ adV B U := by
  obtain ⟨h1, h2, h3, h4⟩ := h
  refine ⟨fun own i k hk => ?_, ?_, ?_, ?_⟩
  · obtain ⟨tx, ht⟩ := h1 own i k hk
    exact ⟨tx, ht.warm hW⟩
  · rw [hU]
    exact ((h2.kept hS.2.1).moved hW.alike).narrow hAB
  · rw [hU]
    exact ((h3.kept hS.2.1).moved hW.alike).narrow hAB
  · rw [hU]
    exact ((h4.kept hS.2.1).moved hW.alike).narrow hAB
theorem StrEnv.same {ρ adV : Nat → Nat} {A : Nat → Prop} {s U : State} (h : StrEnv ρ adV A s) (hv : U.vm = s.vm) (hU : U.heap = s.heap) : StrEnv ρ adV A U := by
  have hal : s.vm.Alike U.vm := by rw [hv]; exact Vm.Alike.refl _
  obtain ⟨h1, h2, h3, h4⟩ := h
  refine ⟨fun own i k hk => ?_, ?_, ?_, ?_⟩
  · obtain ⟨tx, ht⟩ := h1 own i k hk
    exact ⟨tx, ht.same hv⟩
  · rw [hU]
    exact h2.moved hal
  · rw [hU]
    exact h3.moved hal
  · rw [hU]
    exact h4.moved hal
theorem PcG_blind {cs ρ adV : Nat → Nat} {dC : Nat → ClassId} {dI : Nat → Nat → Nat} {as : List xV} {σ : xSt} {sz : Nat} : FrameBlind (PcG cs ρ adV dC dI as σ sz) := by
  intro a U g mk h
  obtain ⟨h0, h1, h2, h3, h4, h5⟩ := h
  exact ⟨h0, h1, h2, va_K.moved (u := U) (U := U.calling g mk a) (Vm.Alike.refl U.vm) h3, NWs.same (s := U) rfl h4, StrEnv.same (s := U) h5 rfl rfl⟩
theorem AW_sub {ρ : Nat → Nat} {n k : Nat} (h : n ≤ k) : ∀ q, AW ρ k q → AW ρ n q := fun q hq => hq.elim Or.inl (fun z => Or.inr (Nat.le_trans h z))
theorem xpop_of : ∀ (n : Nat) (as st as' st' : List xV), xpop n as st = some (as', st') → as'.reverse ++ st' = as.reverse ++ st ∧ as'.length = n + as.length
  | 0, as, st, as', st', h => by
    cases h
    exact ⟨rfl, by omega⟩
  | n + 1, as, [], as', st', h => nomatch h
  | n + 1, as, v :: st, as', st', h => by
    obtain ⟨h1, h2⟩ := xpop_of n (v :: as) st as' st' h
    refine ⟨by rw [h1]; simp, by rw [h2, List.length_cons]; omega⟩
