/-! RUNNING THE READER: rows by which a printed function is shown to be what the reader computes -/
theorem runI_mono {sc : xSc} {c1 c2 : xCall} (hc : ∀ m as σ r, c1 m as σ = some r → c2 m as σ = some r) {own rk : Nat} {cd : Nat → Option (Instr × Nat)} : ∀ (n : Nat) (q : xS) (r : xR × xSt) (n' : Nat), n ≤ n' → runI sc c1 own rk cd n q = some r → runI sc c2 own rk cd n' q = some r := by
  intro n
  induction n with
  | zero => exact fun q r n' _ h => nomatch h
  | succ n ih =>
    intro q r n' hn h
    obtain ⟨n2, rfl⟩ : ∃ n2, n' = n2 + 1 := ⟨n' - 1, by omega⟩
    obtain ⟨pc, ls, st, σ⟩ := q
    unfold runI at h ⊢
    cases hi_ : cd pc with
    | none =>
      rw [hi_] at h
      cases h
    | some il =>
      obtain ⟨i, len⟩ := il
      rw [hi_] at h
      dsimp only at h ⊢
      cases hr_ : xretI own rk st i with
      | some r2 =>
        rw [hr_] at h
        exact h
      | none =>
        rw [hr_] at h
        dsimp only at h ⊢
        cases hcl_ : xcallI own st i with
        | some z =>
          obtain ⟨m2, as, st'⟩ := z
          rw [hcl_] at h
          dsimp only at h ⊢
          cases hca_ : c1 m2 as σ with
          | none =>
            rw [hca_] at h
            cases h
          | some z2 =>
            rw [hca_] at h
            rw [hc _ _ _ _ hca_]
            obtain ⟨v, σ2⟩ := z2
            cases v with
            | none => cases h
            | some v => exact ih _ _ _ (by omega) h
        | none =>
          rw [hcl_] at h
          dsimp only at h ⊢
          cases hs_ : xstepI sc own pc ls st σ i with
          | none =>
            rw [hs_] at h
            cases h
          | some z =>
            obtain ⟨g, q2⟩ := z
            rw [hs_] at h
            cases g with
            | false => cases h
            | true => exact ih _ _ _ (by omega) h
theorem callD_mono {N N' : Nat} (hN : N ≤ N') : ∀ (d d' : Nat), d ≤ d' → ∀ m as σ r, callD N d m as σ = some r → callD N' d' m as σ = some r := by
  intro d
  induction d with
  | zero => exact fun d' _ m as σ r h => nomatch h
  | succ d ih =>
    intro d' hd m as σ r h
    obtain ⟨d2, rfl⟩ : ∃ d2, d' = d2 + 1 := ⟨d' - 1, by omega⟩
    unfold callD at h ⊢
    cases hb_ : Nat.ble (eL as).length (mMax m) with
    | false =>
      rw [hb_] at h
      cases h
    | true =>
      rw [hb_] at h
      exact runI_mono (fun m as σ r h2 => ih d2 (by omega) m as σ r h2) N _ r N' hN h
theorem Call.mono {d d' m : Nat} {as : List xV} {σ σ' : xSt} {r : xR} (h : Call d m as σ r σ') (hd : d ≤ d') : Call d' m as σ r σ' := by
  obtain ⟨N, h⟩ := h
  exact ⟨N, callD_mono (Nat.le_refl N) d d' hd m as σ _ h⟩
/-- one step that neither calls nor leaves -/
def xstep1 (own rk : Nat) (cd : Nat → Option (Instr × Nat)) : xS → Option (Bool × xS)
  | (pc, ls, st, σ) => match cd pc with
    | none => none
    | some (i, _) => match xretI own rk st i with
      | some _ => none
      | none => match xcallI own st i with
        | some _ => none
        | none => xstepI none own pc ls st σ i
def xsteps (own rk : Nat) (cd : Nat → Option (Instr × Nat)) : Nat → xS → Option xS
  | 0, s => some s
  | k + 1, s => match xstep1 own rk cd s with
    | some (true, s') => xsteps own rk cd k s'
    | _ => none
def xretAt (own rk : Nat) (cd : Nat → Option (Instr × Nat)) : xS → Option (xR × xSt)
  | (pc, _, st, σ) => match cd pc with
    | none => none
    | some (i, _) => match xretI own rk st i with
      | some r => some (r, σ)
      | none => none
/-- a call: the method, its arguments, the numbers, and where it goes on with an answer -/
def xcallAt (own rk : Nat) (cd : Nat → Option (Instr × Nat)) : xS → Option (Nat × List xV × xSt × (Nat × xL × List xV))
  | (pc, ls, st, σ) => match cd pc with
    | none => none
    | some (i, _) => match xretI own rk st i with
      | some _ => none
      | none => match xcallI own st i with
        | some (m, as, st') => some (m, as, σ, (pc + 3, ls, st'))
        | none => none
section RUNS
variable {d own rk : Nat} {cd : Nat → Option (Instr × Nat)} {α : Type} {rT : α → xR × xSt} {r : α}
theorem run_one {s s' : xS} {res : xR × xSt} (h : xstep1 own rk cd s = some (true, s')) (kk : Run d own rk cd s' res) : Run d own rk cd s res := by
  obtain ⟨N, hN⟩ := kk
  refine ⟨N + 1, ?_⟩
  have hN2 := runI_mono (sc := none) (fun m as σ r h2 => callD_mono (Nat.le_succ N) d d (Nat.le_refl d) m as σ r h2) N s' res N (Nat.le_refl N) hN
  obtain ⟨pc, ls, st, σ⟩ := s
  unfold xstep1 at h
  dsimp only at h
  unfold runI
  cases hi_ : cd pc with
  | none =>
    rw [hi_] at h
    cases h
  | some il =>
    obtain ⟨i, len⟩ := il
    rw [hi_] at h
    dsimp only at h ⊢
    cases hr_ : xretI own rk st i with
    | some r2 =>
      rw [hr_] at h
      cases h
    | none =>
      rw [hr_] at h
      dsimp only at h ⊢
      cases hcl_ : xcallI own st i with
      | some z =>
        rw [hcl_] at h
        cases h
      | none =>
        rw [hcl_] at h
        dsimp only at h ⊢
        rw [h]
        exact hN2
theorem run_seg {k : Nat} {s s' : xS} {res : xR × xSt} (h : xsteps own rk cd k s = some s') (kk : Run d own rk cd s' res) : Run d own rk cd s res := by
  induction k generalizing s with
  | zero =>
    cases h
    exact kk
  | succ k ih =>
    unfold xsteps at h
    split at h
    · rename_i hs_
      exact run_one hs_ (ih h)
    · cases h
theorem run_ite {c : Prop} [Decidable c] {A B : Option α} {s1 s2 : xS} (hf : (if c then A else B) = some r) (h1 : c → A = some r → Run d own rk cd s1 (rT r)) (h2 : ¬ c → B = some r → Run d own rk cd s2 (rT r)) : Run d own rk cd (if c then s1 else s2) (rT r) := by
  by_cases hc : c
  · rw [if_pos hc] at hf ⊢
    exact h1 hc hf
  · rw [if_neg hc] at hf ⊢
    exact h2 hc hf
theorem run_guard {c : Prop} [Decidable c] {A : Option α} {s s' : xS} (hf : (if c then A else none) = some r) (h : xstep1 own rk cd s = some (decide c, s')) (kk : A = some r → Run d own rk cd s' (rT r)) : Run d own rk cd s (rT r) := by
  by_cases hc : c
  · rw [if_pos hc] at hf
    exact run_one (by rw [h, decide_eq_true hc]) (kk hf)
  · rw [if_neg hc] at hf
    cases hf
theorem run_gdiv {c : Prop} [Decidable c] {A : Option α} {s s' : xS} (hf : (if c then none else A) = some r) (h : xstep1 own rk cd s = some (!decide c, s')) (kk : A = some r → Run d own rk cd s' (rT r)) : Run d own rk cd s (rT r) := by
  by_cases hc : c
  · rw [if_pos hc] at hf
    cases hf
  · rw [if_neg hc] at hf
    exact run_one (by rw [h, decide_eq_false hc]; rfl) (kk hf)
theorem run_ret {v : α} {s : xS} (hf : some v = some r) (h : xretAt own rk cd s = some (rT v)) : Run d own rk cd s (rT r) := by
  cases hf
  refine ⟨1, ?_⟩
  obtain ⟨pc, ls, st, σ⟩ := s
  unfold xretAt at h
  dsimp only at h
  unfold runI
  cases hi_ : cd pc with
  | none =>
    rw [hi_] at h
    cases h
  | some il =>
    obtain ⟨i, len⟩ := il
    rw [hi_] at h
    dsimp only at h ⊢
    cases hr_ : xretI own rk st i with
    | none =>
      rw [hr_] at h
      cases h
    | some r2 =>
      rw [hr_] at h
      exact h
theorem run_callR {m pc : Nat} {as st' : List xV} {ls : xL} {σ σ' : xSt} {v : Option xV} {s : xS} {res : xR × xSt} (hc : xcallAt own rk cd s = some (m, as, σ, (pc, ls, st'))) (hC : Call d m as σ (some v) σ') (kk : Run d own rk cd (pc, ls, v.toList ++ st', σ') res) : Run d own rk cd s res := by
  obtain ⟨N1, h1⟩ := hC
  obtain ⟨N2, h2⟩ := kk
  refine ⟨N1 + N2 + 1, ?_⟩
  have h1' := callD_mono (show N1 ≤ N1 + N2 + 1 by omega) d d (Nat.le_refl d) m as σ _ h1
  have h2' := runI_mono (sc := none) (fun m as σ r h => callD_mono (show N2 ≤ N1 + N2 + 1 by omega) d d (Nat.le_refl d) m as σ r h) N2 _ res (N1 + N2) (by omega) h2
  obtain ⟨pc0, ls0, st0, σ0⟩ := s
  unfold xcallAt at hc
  dsimp only at hc
  unfold runI
  cases hi_ : cd pc0 with
  | none =>
    rw [hi_] at hc
    cases hc
  | some il =>
    obtain ⟨i, len⟩ := il
    rw [hi_] at hc
    dsimp only at hc ⊢
    cases hr_ : xretI own rk st0 i with
    | some r2 =>
      rw [hr_] at hc
      cases hc
    | none =>
      rw [hr_] at hc
      dsimp only at hc ⊢
      cases hcl_ : xcallI own st0 i with
      | none =>
        rw [hcl_] at hc
        cases hc
      | some z =>
        obtain ⟨m2, as2, st2⟩ := z
        rw [hcl_] at hc
        cases hc
        dsimp only
        rw [h1']
        exact h2'
/-- a name for a value -/
def xlet {α β : Type} (v : α) (f : α → β) : β := f v
/-- an answer and new numbers, then the rest -/
def xbW {α β : Type} (o : Option (α × xSt)) (k : α → xSt → Option β) : Option β := match o with
  | none => none
  | some (a, s) => k a s
def xbR {α β : Type} (o : Option α) (k : α → Option β) : Option β := match o with
  | none => none
  | some a => k a
theorem run_let {β : Type} {v : β} {B : β → Option α} (s : β → xS) (hf : xlet v B = some r) (kk : ∀ x, B x = some r → Run d own rk cd (s x) (rT r)) : Run d own rk cd (s v) (rT r) := kk v hf
theorem run_callW {m pc : Nat} {as st' : List xV} {ls : xL} {σ : xSt} {s : xS} {β : Type} {w : β → Option xV} {o : Option (β × xSt)} {k : β → xSt → Option α} (hf : xbW o k = some r) (hc : xcallAt own rk cd s = some (m, as, σ, (pc, ls, st'))) (hC : ∀ a s', o = some (a, s') → Call d m as σ (some (w a)) s') (kk : ∀ a s', k a s' = some r → Run d own rk cd (pc, ls, (w a).toList ++ st', s') (rT r)) : Run d own rk cd s (rT r) := by
  cases ho : o with
  | none =>
    rw [ho] at hf
    cases hf
  | some z =>
    obtain ⟨a, s'⟩ := z
    rw [ho] at hf
    exact run_callR hc (hC a s' ho) (kk a s' hf)
/-- a call that writes nothing -/
theorem run_callN {m pc : Nat} {as st' : List xV} {ls : xL} {σ : xSt} {s : xS} {β : Type} {w : β → Option xV} {o : Option β} {k : β → Option α} (hf : xbR o k = some r) (hc : xcallAt own rk cd s = some (m, as, σ, (pc, ls, st'))) (hC : ∀ a, o = some a → Call d m as σ (some (w a)) σ) (kk : ∀ a, k a = some r → Run d own rk cd (pc, ls, (w a).toList ++ st', σ) (rT r)) : Run d own rk cd s (rT r) := by
  cases ho : o with
  | none =>
    rw [ho] at hf
    cases hf
  | some a =>
    rw [ho] at hf
    exact run_callR hc (hC a ho) (kk a hf)
/-- a call that writes and answers nothing -/
theorem run_callV {m pc : Nat} {as st' : List xV} {ls : xL} {σ : xSt} {s : xS} {o : Option xSt} {k : xSt → Option α} (hf : xbR o k = some r) (hc : xcallAt own rk cd s = some (m, as, σ, (pc, ls, st'))) (hC : ∀ s', o = some s' → Call d m as σ (some none) s') (kk : ∀ s', k s' = some r → Run d own rk cd (pc, ls, st', s') (rT r)) : Run d own rk cd s (rT r) := by
  cases ho : o with
  | none =>
    rw [ho] at hf
    cases hf
  | some a =>
    rw [ho] at hf
    exact run_callR (v := none) hc (hC a ho) (kk a hf)
theorem call_of {m : Nat} {as : List xV} {σ : xSt} (ho : mOwn m = own) (hr : mRk m = rk) (hcd : mCode m = cd) {ls : xL} (hl : eP (mMax m) (eL as) = ls) (hle : Nat.ble (eL as).length (mMax m) = true) (h : Run d own rk cd (0, ls, [], σ) (rT r)) : Call (d + 1) m as σ (rT r).1 (rT r).2 := by
  obtain ⟨N, hN⟩ := h
  subst ho hr hcd hl
  refine ⟨N, ?_⟩
  unfold callD
  rw [hle]
  exact hN
end RUNS
/-! what a printed function's answer is as an end of the reader -/
def tI (σ : xSt) (a : Int) : xR × xSt := (some (some (vI a)), σ)
def tL (σ : xSt) (a : Int) : xR × xSt := (some (some (vL a)), σ)
def tIW (p : Int × xSt) : xR × xSt := (some (some (vI p.1)), p.2)
def tLW (p : Int × xSt) : xR × xSt := (some (some (vL p.1)), p.2)
def tV (p : xSt) : xR × xSt := (some none, p)
def tU (σ : xSt) (_ : Unit) : xR × xSt := (some none, σ)
def tXI (p : Option Int × xSt) : xR × xSt := (p.1.map (fun a => some (vI a)), p.2)
def tXL (p : Option Int × xSt) : xR × xSt := (p.1.map (fun a => some (vL a)), p.2)
