/-! printed by wip/whole/all16.py: what the methods compute, and that the reader does so -/
/-- BentPenny$Bits.throwAt([BI)I -/
def f_Bits_throwAt (a0 : Nat) (p1 : Int) (σ : xSt) : Option (Int) :=
  xbR (f_X_isWithin p1 (((lay a0).2 : Nat) : Int) σ) fun r1 =>
  if r1 = 0 then (some 0)
  else (if 0 ≤ p1 ∧ p1 < (((lay a0).2 : Nat) : Int) then (
  some (σ a0 p1.toNat)) else none)
theorem c_Bits_throwAt_98 {p1 : Int} {σ : xSt} {r : Int} (hf : f_Bits_throwAt 98 p1 σ = some r) : Call (1 + 1) 17 [vR 98, vI p1] σ ((tI σ) r).1 ((tI σ) r).2 := by
  unfold f_Bits_throwAt at hf
  refine call_of (own := 1) (rk := 1) (cd := kX1_throwAt) (ls := [some (vR 98), some (vI p1)]) (rT := (tI σ)) rfl rfl rfl rfl rfl ?_
  refine run_seg (k := 3) (s' := (3, [some (vR 98), some (vI p1)], [vI (((lay 98).2 : Nat) : Int), vI p1], σ)) rfl ?_
  refine run_callN (w := fun a => some (vI a)) (m := 207) (as := [vI p1, vI (((lay 98).2 : Nat) : Int)]) (pc := 6) (ls := [some (vR 98), some (vI p1)]) (st' := []) (σ := σ) hf rfl (fun _ h => (c_X_isWithin h).mono (by decide)) (fun r1 hf => ?_)
  refine run_seg (k := 1) (s' := (if r1 = 0 then (15, [some (vR 98), some (vI p1)], [], σ) else (9, [some (vR 98), some (vI p1)], [], σ))) rfl ?_
  refine run_ite hf (fun _ hf => ?_) (fun _ hf => ?_)
  · refine run_seg (k := 1) (s' := (16, [some (vR 98), some (vI p1)], [vI 0], σ)) rfl ?_
    exact run_ret hf rfl
  · refine run_seg (k := 2) (s' := (11, [some (vR 98), some (vI p1)], [vI p1, vR 98], σ)) rfl ?_
    refine run_guard (s' := (12, [some (vR 98), some (vI p1)], [vI (σ 98 p1.toNat)], σ)) hf rfl (fun hf => ?_)
    refine run_seg (k := 1) (s' := (16, [some (vR 98), some (vI p1)], [vI (σ 98 p1.toNat)], σ)) rfl ?_
    exact run_ret hf rfl
theorem c_Bits_throwAt_101 {p1 : Int} {σ : xSt} {r : Int} (hf : f_Bits_throwAt 101 p1 σ = some r) : Call (1 + 1) 17 [vR 101, vI p1] σ ((tI σ) r).1 ((tI σ) r).2 := by
  unfold f_Bits_throwAt at hf
  refine call_of (own := 1) (rk := 1) (cd := kX1_throwAt) (ls := [some (vR 101), some (vI p1)]) (rT := (tI σ)) rfl rfl rfl rfl rfl ?_
  refine run_seg (k := 3) (s' := (3, [some (vR 101), some (vI p1)], [vI (((lay 101).2 : Nat) : Int), vI p1], σ)) rfl ?_
  refine run_callN (w := fun a => some (vI a)) (m := 207) (as := [vI p1, vI (((lay 101).2 : Nat) : Int)]) (pc := 6) (ls := [some (vR 101), some (vI p1)]) (st' := []) (σ := σ) hf rfl (fun _ h => (c_X_isWithin h).mono (by decide)) (fun r1 hf => ?_)
  refine run_seg (k := 1) (s' := (if r1 = 0 then (15, [some (vR 101), some (vI p1)], [], σ) else (9, [some (vR 101), some (vI p1)], [], σ))) rfl ?_
  refine run_ite hf (fun _ hf => ?_) (fun _ hf => ?_)
  · refine run_seg (k := 1) (s' := (16, [some (vR 101), some (vI p1)], [vI 0], σ)) rfl ?_
    exact run_ret hf rfl
  · refine run_seg (k := 2) (s' := (11, [some (vR 101), some (vI p1)], [vI p1, vR 101], σ)) rfl ?_
    refine run_guard (s' := (12, [some (vR 101), some (vI p1)], [vI (σ 101 p1.toNat)], σ)) hf rfl (fun hf => ?_)
    refine run_seg (k := 1) (s' := (16, [some (vR 101), some (vI p1)], [vI (σ 101 p1.toNat)], σ)) rfl ?_
    exact run_ret hf rfl
/-- BentPenny$Bits.add(I)V -/
def f_Bits_add (p1 : Int) (σ : xSt) : Option (xSt) :=
  xbR (f_X_isWithin (σ 99 1) 600 σ) fun r1 =>
  if r1 = 0 then (some σ)
  else (if 0 ≤ σ 99 1 ∧ σ 99 1 < 600 then (
  xlet (upS σ 100 (σ 99 1).toNat (w8 (w8 p1))) fun σ2 =>
  xlet (upS σ2 99 1 (w32 ((σ2 99 1) + 1))) fun σ3 =>
  some σ3) else none)
theorem c_Bits_add {p1 : Int} {σ : xSt} {r : xSt} (hf : f_Bits_add p1 σ = some r) : Call (1 + 1) 14 [vR 99, vI p1] σ (tV r).1 (tV r).2 := by
  unfold f_Bits_add at hf
  refine call_of (own := 1) (rk := 0) (cd := kX1_add) (ls := [some (vR 99), some (vI p1)]) (rT := tV) rfl rfl rfl rfl rfl ?_
  refine run_seg (k := 5) (s' := (9, [some (vR 99), some (vI p1)], [vI 600, vI (σ 99 1)], σ)) rfl ?_
  refine run_callN (w := fun a => some (vI a)) (m := 207) (as := [vI (σ 99 1), vI 600]) (pc := 12) (ls := [some (vR 99), some (vI p1)]) (st' := []) (σ := σ) hf rfl (fun _ h => (c_X_isWithin h).mono (by decide)) (fun r1 hf => ?_)
  refine run_seg (k := 1) (s' := (if r1 = 0 then (36, [some (vR 99), some (vI p1)], [], σ) else (15, [some (vR 99), some (vI p1)], [], σ))) rfl ?_
  refine run_ite hf (fun _ hf => ?_) (fun _ hf => ?_)
  · exact run_ret hf rfl
  · refine run_seg (k := 6) (s' := (25, [some (vR 99), some (vI p1)], [vI (w8 p1), vI (σ 99 1), vR 100], σ)) rfl ?_
    refine run_guard (s' := (26, [some (vR 99), some (vI p1)], [], upS σ 100 (σ 99 1).toNat (w8 (w8 p1)))) hf rfl (fun hf => ?_)
    refine run_let (fun σ2 => (26, [some (vR 99), some (vI p1)], [], σ2)) hf (fun σ2 hf => ?_)
    refine run_seg (k := 6) (s' := (36, [some (vR 99), some (vI p1)], [], upS σ2 99 1 (w32 ((σ2 99 1) + 1)))) rfl ?_
    refine run_let (fun σ3 => (36, [some (vR 99), some (vI p1)], [], σ3)) hf (fun σ3 hf => ?_)
    exact run_ret hf rfl
def f_Bits_addPairs_3 (a1 : Nat) : Nat → Int → Int → Int → xSt → Option (xSt)
  | 0, _, _, _, _ => none
  | n + 1, l2, l3, l4, σ =>
    if w32 (l4 + 1) < l3 then (xbR (f_Bits_throwAt a1 (w32 (l2 + l4)) σ) fun r1 =>
    xbR (f_Bits_throwAt a1 (w32 ((w32 (l2 + l4)) + 1)) σ) fun r2 =>
    if r1 = r2 then (xlet (w32 (l4 + 2)) fun x3 =>
    f_Bits_addPairs_3 a1 n l2 l3 x3 σ)
    else (xbR (f_Bits_add r1 σ) fun σ4 =>
    xlet (w32 (l4 + 2)) fun x5 =>
    f_Bits_addPairs_3 a1 n l2 l3 x5 σ4))
    else (some σ)
/-- BentPenny$Bits.addPairs([BII)V -/
def f_Bits_addPairs (a1 : Nat) (p2 : Int) (p3 : Int) (σ : xSt) : Option (xSt) :=
  f_Bits_addPairs_3 a1 1000000 p2 p3 0 σ
theorem r_Bits_addPairs_3_98 : ∀ (n : Nat) {l2 : Int} {l3 : Int} {l4 : Int} {g5 : Option xV} {σ : xSt} {r : xSt}, f_Bits_addPairs_3 98 n l2 l3 l4 σ = some r → Run 2 1 0 kX1_addPairs (3, [some (vR 99), some (vR 98), some (vI l2), some (vI l3), some (vI l4), g5], [], σ) (tV r) := by
  intro n
  induction n with
  | zero =>
    intro _ _ _ _ _ _ h
    exact nomatch (show (none : Option (xSt)) = some _ from h)
  | succ n ih =>
    intro l2 l3 l4 g5 σ r hf
    unfold f_Bits_addPairs_3 at hf
    refine run_seg (k := 5) (s' := (if w32 (l4 + 1) < l3 then (11, [some (vR 99), some (vR 98), some (vI l2), some (vI l3), some (vI l4), g5], [], σ) else (48, [some (vR 99), some (vR 98), some (vI l2), some (vI l3), some (vI l4), g5], [], σ))) rfl ?_
    refine run_ite hf (fun _ hf => ?_) (fun _ hf => ?_)
    · refine run_seg (k := 4) (s' := (16, [some (vR 99), some (vR 98), some (vI l2), some (vI l3), some (vI l4), g5], [vI (w32 (l2 + l4)), vR 98], σ)) rfl ?_
      refine run_callN (w := fun a => some (vI a)) (m := 17) (as := [vR 98, vI (w32 (l2 + l4))]) (pc := 19) (ls := [some (vR 99), some (vR 98), some (vI l2), some (vI l3), some (vI l4), g5]) (st' := []) (σ := σ) hf rfl (fun _ h => (c_Bits_throwAt_98 h).mono (by decide)) (fun r1 hf => ?_)
      refine run_seg (k := 8) (s' := (30, [some (vR 99), some (vR 98), some (vI l2), some (vI l3), some (vI l4), some (vI r1)], [vI (w32 ((w32 (l2 + l4)) + 1)), vR 98, vI r1], σ)) rfl ?_
      refine run_callN (w := fun a => some (vI a)) (m := 17) (as := [vR 98, vI (w32 ((w32 (l2 + l4)) + 1))]) (pc := 33) (ls := [some (vR 99), some (vR 98), some (vI l2), some (vI l3), some (vI l4), some (vI r1)]) (st' := [vI r1]) (σ := σ) hf rfl (fun _ h => (c_Bits_throwAt_98 h).mono (by decide)) (fun r2 hf => ?_)
      refine run_seg (k := 1) (s' := (if r1 = r2 then (42, [some (vR 99), some (vR 98), some (vI l2), some (vI l3), some (vI l4), some (vI r1)], [], σ) else (36, [some (vR 99), some (vR 98), some (vI l2), some (vI l3), some (vI l4), some (vI r1)], [], σ))) rfl ?_
      refine run_ite hf (fun _ hf => ?_) (fun _ hf => ?_)
      · refine run_seg (k := 1) (s' := (45, [some (vR 99), some (vR 98), some (vI l2), some (vI l3), some (vI (w32 (l4 + 2))), some (vI r1)], [], σ)) rfl ?_
        refine run_let (fun x3 => (45, [some (vR 99), some (vR 98), some (vI l2), some (vI l3), some (vI x3), some (vI r1)], [], σ)) hf (fun x3 hf => ?_)
        refine run_seg (k := 1) (s' := (3, [some (vR 99), some (vR 98), some (vI l2), some (vI l3), some (vI x3), some (vI r1)], [], σ)) rfl ?_
        exact ih hf
      · refine run_seg (k := 2) (s' := (39, [some (vR 99), some (vR 98), some (vI l2), some (vI l3), some (vI l4), some (vI r1)], [vI r1, vR 99], σ)) rfl ?_
        refine run_callV (m := 14) (as := [vR 99, vI r1]) (pc := 42) (ls := [some (vR 99), some (vR 98), some (vI l2), some (vI l3), some (vI l4), some (vI r1)]) (st' := []) (σ := σ) hf rfl (fun _ h => (c_Bits_add h).mono (by decide)) (fun σ4 hf => ?_)
        refine run_seg (k := 1) (s' := (45, [some (vR 99), some (vR 98), some (vI l2), some (vI l3), some (vI (w32 (l4 + 2))), some (vI r1)], [], σ4)) rfl ?_
        refine run_let (fun x5 => (45, [some (vR 99), some (vR 98), some (vI l2), some (vI l3), some (vI x5), some (vI r1)], [], σ4)) hf (fun x5 hf => ?_)
        refine run_seg (k := 1) (s' := (3, [some (vR 99), some (vR 98), some (vI l2), some (vI l3), some (vI x5), some (vI r1)], [], σ4)) rfl ?_
        exact ih hf
    · exact run_ret hf rfl
theorem c_Bits_addPairs_98 {p2 : Int} {p3 : Int} {σ : xSt} {r : xSt} (hf : f_Bits_addPairs 98 p2 p3 σ = some r) : Call (2 + 1) 16 [vR 99, vR 98, vI p2, vI p3] σ (tV r).1 (tV r).2 := by
  unfold f_Bits_addPairs at hf
  refine call_of (own := 1) (rk := 0) (cd := kX1_addPairs) (ls := [some (vR 99), some (vR 98), some (vI p2), some (vI p3), none, none]) (rT := tV) rfl rfl rfl rfl rfl ?_
  refine run_seg (k := 2) (s' := (3, [some (vR 99), some (vR 98), some (vI p2), some (vI p3), some (vI 0), none], [], σ)) rfl ?_
  exact r_Bits_addPairs_3_98 1000000 hf
theorem r_Bits_addPairs_3_101 : ∀ (n : Nat) {l2 : Int} {l3 : Int} {l4 : Int} {g5 : Option xV} {σ : xSt} {r : xSt}, f_Bits_addPairs_3 101 n l2 l3 l4 σ = some r → Run 2 1 0 kX1_addPairs (3, [some (vR 99), some (vR 101), some (vI l2), some (vI l3), some (vI l4), g5], [], σ) (tV r) := by
  intro n
  induction n with
  | zero =>
    intro _ _ _ _ _ _ h
    exact nomatch (show (none : Option (xSt)) = some _ from h)
  | succ n ih =>
    intro l2 l3 l4 g5 σ r hf
    unfold f_Bits_addPairs_3 at hf
    refine run_seg (k := 5) (s' := (if w32 (l4 + 1) < l3 then (11, [some (vR 99), some (vR 101), some (vI l2), some (vI l3), some (vI l4), g5], [], σ) else (48, [some (vR 99), some (vR 101), some (vI l2), some (vI l3), some (vI l4), g5], [], σ))) rfl ?_
    refine run_ite hf (fun _ hf => ?_) (fun _ hf => ?_)
    · refine run_seg (k := 4) (s' := (16, [some (vR 99), some (vR 101), some (vI l2), some (vI l3), some (vI l4), g5], [vI (w32 (l2 + l4)), vR 101], σ)) rfl ?_
      refine run_callN (w := fun a => some (vI a)) (m := 17) (as := [vR 101, vI (w32 (l2 + l4))]) (pc := 19) (ls := [some (vR 99), some (vR 101), some (vI l2), some (vI l3), some (vI l4), g5]) (st' := []) (σ := σ) hf rfl (fun _ h => (c_Bits_throwAt_101 h).mono (by decide)) (fun r1 hf => ?_)
      refine run_seg (k := 8) (s' := (30, [some (vR 99), some (vR 101), some (vI l2), some (vI l3), some (vI l4), some (vI r1)], [vI (w32 ((w32 (l2 + l4)) + 1)), vR 101, vI r1], σ)) rfl ?_
      refine run_callN (w := fun a => some (vI a)) (m := 17) (as := [vR 101, vI (w32 ((w32 (l2 + l4)) + 1))]) (pc := 33) (ls := [some (vR 99), some (vR 101), some (vI l2), some (vI l3), some (vI l4), some (vI r1)]) (st' := [vI r1]) (σ := σ) hf rfl (fun _ h => (c_Bits_throwAt_101 h).mono (by decide)) (fun r2 hf => ?_)
      refine run_seg (k := 1) (s' := (if r1 = r2 then (42, [some (vR 99), some (vR 101), some (vI l2), some (vI l3), some (vI l4), some (vI r1)], [], σ) else (36, [some (vR 99), some (vR 101), some (vI l2), some (vI l3), some (vI l4), some (vI r1)], [], σ))) rfl ?_
      refine run_ite hf (fun _ hf => ?_) (fun _ hf => ?_)
      · refine run_seg (k := 1) (s' := (45, [some (vR 99), some (vR 101), some (vI l2), some (vI l3), some (vI (w32 (l4 + 2))), some (vI r1)], [], σ)) rfl ?_
        refine run_let (fun x3 => (45, [some (vR 99), some (vR 101), some (vI l2), some (vI l3), some (vI x3), some (vI r1)], [], σ)) hf (fun x3 hf => ?_)
        refine run_seg (k := 1) (s' := (3, [some (vR 99), some (vR 101), some (vI l2), some (vI l3), some (vI x3), some (vI r1)], [], σ)) rfl ?_
        exact ih hf
      · refine run_seg (k := 2) (s' := (39, [some (vR 99), some (vR 101), some (vI l2), some (vI l3), some (vI l4), some (vI r1)], [vI r1, vR 99], σ)) rfl ?_
        refine run_callV (m := 14) (as := [vR 99, vI r1]) (pc := 42) (ls := [some (vR 99), some (vR 101), some (vI l2), some (vI l3), some (vI l4), some (vI r1)]) (st' := []) (σ := σ) hf rfl (fun _ h => (c_Bits_add h).mono (by decide)) (fun σ4 hf => ?_)
        refine run_seg (k := 1) (s' := (45, [some (vR 99), some (vR 101), some (vI l2), some (vI l3), some (vI (w32 (l4 + 2))), some (vI r1)], [], σ4)) rfl ?_
        refine run_let (fun x5 => (45, [some (vR 99), some (vR 101), some (vI l2), some (vI l3), some (vI x5), some (vI r1)], [], σ4)) hf (fun x5 hf => ?_)
        refine run_seg (k := 1) (s' := (3, [some (vR 99), some (vR 101), some (vI l2), some (vI l3), some (vI x5), some (vI r1)], [], σ4)) rfl ?_
        exact ih hf
    · exact run_ret hf rfl
theorem c_Bits_addPairs_101 {p2 : Int} {p3 : Int} {σ : xSt} {r : xSt} (hf : f_Bits_addPairs 101 p2 p3 σ = some r) : Call (2 + 1) 16 [vR 99, vR 101, vI p2, vI p3] σ (tV r).1 (tV r).2 := by
  unfold f_Bits_addPairs at hf
  refine call_of (own := 1) (rk := 0) (cd := kX1_addPairs) (ls := [some (vR 99), some (vR 101), some (vI p2), some (vI p3), none, none]) (rT := tV) rfl rfl rfl rfl rfl ?_
  refine run_seg (k := 2) (s' := (3, [some (vR 99), some (vR 101), some (vI p2), some (vI p3), some (vI 0), none], [], σ)) rfl ?_
  exact r_Bits_addPairs_3_101 1000000 hf
/-- BentPenny$Bits.byPairs([BI)I -/
def f_Bits_byPairs (p2 : Int) (σ : xSt) : Option (Int × xSt) :=
  xlet (upS σ 99 1 0) fun σ1 =>
  xbR (f_Bits_addPairs 98 0 p2 σ1) fun σ2 =>
  some (σ2 99 1, σ2)
theorem c_Bits_byPairs {p2 : Int} {σ : xSt} {r : Int × xSt} (hf : f_Bits_byPairs p2 σ = some r) : Call (3 + 1) 15 [vR 99, vR 98, vI p2] σ (tIW r).1 (tIW r).2 := by
  unfold f_Bits_byPairs at hf
  refine call_of (own := 1) (rk := 1) (cd := kX1_byPairs) (ls := [some (vR 99), some (vR 98), some (vI p2)]) (rT := tIW) rfl rfl rfl rfl rfl ?_
  refine run_seg (k := 3) (s' := (5, [some (vR 99), some (vR 98), some (vI p2)], [], upS σ 99 1 0)) rfl ?_
  refine run_let (fun σ1 => (5, [some (vR 99), some (vR 98), some (vI p2)], [], σ1)) hf (fun σ1 hf => ?_)
  refine run_seg (k := 4) (s' := (9, [some (vR 99), some (vR 98), some (vI p2)], [vI p2, vI 0, vR 98, vR 99], σ1)) rfl ?_
  refine run_callV (m := 16) (as := [vR 99, vR 98, vI 0, vI p2]) (pc := 12) (ls := [some (vR 99), some (vR 98), some (vI p2)]) (st' := []) (σ := σ1) hf rfl (fun _ h => (c_Bits_addPairs_98 h).mono (by decide)) (fun σ2 hf => ?_)
  refine run_seg (k := 2) (s' := (16, [some (vR 99), some (vR 98), some (vI p2)], [vI (σ2 99 1)], σ2)) rfl ?_
  exact run_ret hf rfl
/-- BentPenny.pairs()I -/
def f_X_pairs (σ : xSt) : Option (Int × xSt) :=
  xbW (f_X_takeRow 0 600 σ) fun r1 σ2 =>
  if r1 = (-1) then (some ((-1), σ2))
  else (xbW (f_Bits_byPairs r1 σ2) fun r3 σ4 =>
  some (r3, σ4))
theorem c_X_pairs {σ : xSt} {r : Int × xSt} (hf : f_X_pairs σ = some r) : Call (4 + 1) 174 [vR 0] σ (tIW r).1 (tIW r).2 := by
  unfold f_X_pairs at hf
  refine call_of (own := 11) (rk := 1) (cd := kX11_pairs) (ls := [some (vR 0), none]) (rT := tIW) rfl rfl rfl rfl rfl ?_
  refine run_seg (k := 3) (s' := (5, [some (vR 0), none], [vI 600, vI 0, vR 0], σ)) rfl ?_
  refine run_callW (w := fun a => some (vI a)) (m := 153) (as := [vR 0, vI 0, vI 600]) (pc := 8) (ls := [some (vR 0), none]) (st' := []) (σ := σ) hf rfl (fun _ _ h => (c_X_takeRow h).mono (by decide)) (fun r1 σ2 hf => ?_)
  refine run_seg (k := 4) (s' := (if r1 = (-1) then (14, [some (vR 0), some (vI r1)], [], σ2) else (18, [some (vR 0), some (vI r1)], [], σ2))) rfl ?_
  refine run_ite hf (fun _ hf => ?_) (fun _ hf => ?_)
  · refine run_seg (k := 2) (s' := (30, [some (vR 0), some (vI r1)], [vI (-1)], σ2)) rfl ?_
    exact run_ret hf rfl
  · refine run_seg (k := 5) (s' := (27, [some (vR 0), some (vI r1)], [vI r1, vR 98, vR 99], σ2)) rfl ?_
    refine run_callW (w := fun a => some (vI a)) (m := 15) (as := [vR 99, vR 98, vI r1]) (pc := 30) (ls := [some (vR 0), some (vI r1)]) (st' := []) (σ := σ2) hf rfl (fun _ _ h => (c_Bits_byPairs h).mono (by decide)) (fun r3 σ4 hf => ?_)
    exact run_ret hf rfl
/-- BentPenny$Bits.note(II)V -/
def f_Bits_note (p1 : Int) (p2 : Int) (σ : xSt) : Option (xSt) :=
  xbR (f_X_isWithin p1 1200 σ) fun r1 =>
  if r1 = 0 then (some σ)
  else (if 0 ≤ p1 ∧ p1 < 1200 then (
  xlet (upS σ 101 p1.toNat (w8 (w8 p2))) fun σ2 =>
  some σ2) else none)
theorem c_Bits_note {p1 : Int} {p2 : Int} {σ : xSt} {r : xSt} (hf : f_Bits_note p1 p2 σ = some r) : Call (1 + 1) 19 [vR 99, vI p1, vI p2] σ (tV r).1 (tV r).2 := by
  unfold f_Bits_note at hf
  refine call_of (own := 1) (rk := 0) (cd := kX1_note) (ls := [some (vR 99), some (vI p1), some (vI p2)]) (rT := tV) rfl rfl rfl rfl rfl ?_
  refine run_seg (k := 4) (s' := (6, [some (vR 99), some (vI p1), some (vI p2)], [vI 1200, vI p1], σ)) rfl ?_
  refine run_callN (w := fun a => some (vI a)) (m := 207) (as := [vI p1, vI 1200]) (pc := 9) (ls := [some (vR 99), some (vI p1), some (vI p2)]) (st' := []) (σ := σ) hf rfl (fun _ h => (c_X_isWithin h).mono (by decide)) (fun r1 hf => ?_)
  refine run_seg (k := 1) (s' := (if r1 = 0 then (20, [some (vR 99), some (vI p1), some (vI p2)], [], σ) else (12, [some (vR 99), some (vI p1), some (vI p2)], [], σ))) rfl ?_
  refine run_ite hf (fun _ hf => ?_) (fun _ hf => ?_)
  · exact run_ret hf rfl
  · refine run_seg (k := 5) (s' := (19, [some (vR 99), some (vI p1), some (vI p2)], [vI (w8 p2), vI p1, vR 101], σ)) rfl ?_
    refine run_guard (s' := (20, [some (vR 99), some (vI p1), some (vI p2)], [], upS σ 101 p1.toNat (w8 (w8 p2)))) hf rfl (fun hf => ?_)
    refine run_let (fun σ2 => (20, [some (vR 99), some (vI p1), some (vI p2)], [], σ2)) hf (fun σ2 hf => ?_)
    exact run_ret hf rfl
def f_Bits_spare_101 (q_Bits_spare : (Int → Int → Int → xSt → Option (xSt))) : Nat → Int → Int → Int → Int → Int → Int → xSt → Option (xSt)
  | 0, _, _, _, _, _, _, _ => none
  | n + 1, l1, l2, l3, l4, l5, l6, σ =>
    if w32 (l6 + 1) < l2 then (xbR (f_Bits_throwAt 101 (w32 (l1 + l6)) σ) fun r9 =>
    xbR (f_Bits_throwAt 101 (w32 ((w32 (l1 + l6)) + 1)) σ) fun r10 =>
    if r9 = r10 then (xbR (f_Bits_throwAt 101 (w32 (l1 + l6)) σ) fun r11 =>
    xbR (f_Bits_note (w32 (l4 + l5)) r11 σ) fun σ12 =>
    xlet (w32 (l5 + 1)) fun x13 =>
    xlet (w32 (l6 + 2)) fun x14 =>
    f_Bits_spare_101 q_Bits_spare n l1 l2 l3 l4 x13 x14 σ12)
    else (xlet (w32 (l6 + 2)) fun x15 =>
    f_Bits_spare_101 q_Bits_spare n l1 l2 l3 l4 l5 x15 σ))
    else (xbR (q_Bits_spare l4 l5 (w32 (l3 + 1)) σ) fun σ16 =>
    some σ16)
def f_Bits_spare_33 (q_Bits_spare : (Int → Int → Int → xSt → Option (xSt))) : Nat → Int → Int → Int → Int → Int → Int → xSt → Option (xSt)
  | 0, _, _, _, _, _, _, _ => none
  | n + 1, l1, l2, l3, l4, l5, l6, σ =>
    if w32 (l6 + 1) < l2 then (xbR (f_Bits_throwAt 101 (w32 (l1 + l6)) σ) fun r3 =>
    xbR (f_Bits_throwAt 101 (w32 ((w32 (l1 + l6)) + 1)) σ) fun r4 =>
    xbR (f_Bits_note (w32 (l4 + l5)) (xxor r3 r4) σ) fun σ5 =>
    xlet (w32 (l5 + 1)) fun x6 =>
    xlet (w32 (l6 + 2)) fun x7 =>
    f_Bits_spare_33 q_Bits_spare n l1 l2 l3 l4 x6 x7 σ5)
    else (xbR (q_Bits_spare l4 l5 (w32 (l3 + 1)) σ) fun σ8 =>
    f_Bits_spare_101 q_Bits_spare 1000000 l1 l2 l3 l4 0 0 σ8)
/-- BentPenny$Bits.spare(III)V -/
def f0_Bits_spare (q_Bits_spare : (Int → Int → Int → xSt → Option (xSt))) (p1 : Int) (p2 : Int) (p3 : Int) (σ : xSt) : Option (xSt) :=
  if p2 < 2 then (some σ)
  else (if 12 < p3 then (some σ)
  else (xbR (f_Bits_addPairs 101 p1 p2 σ) fun σ1 =>
  xlet (w32 (p1 + p2)) fun x2 =>
  f_Bits_spare_33 q_Bits_spare 1000000 p1 p2 p3 x2 0 0 σ1))
theorem r_Bits_spare_101 {d : Nat} (hd : 3 ≤ d) {q_Bits_spare : (Int → Int → Int → xSt → Option (xSt))} (hq_Bits_spare : ∀ {p1 : Int} {p2 : Int} {p3 : Int} {σ : xSt} {r : xSt}, q_Bits_spare p1 p2 p3 σ = some r → Call d 20 [vR 99, vI p1, vI p2, vI p3] σ (tV r).1 (tV r).2) : ∀ (n : Nat) {l1 : Int} {l2 : Int} {l3 : Int} {l4 : Int} {l5 : Int} {l6 : Int} {σ : xSt} {r : xSt}, f_Bits_spare_101 q_Bits_spare n l1 l2 l3 l4 l5 l6 σ = some r → Run d 1 0 kX1_spare (101, [some (vR 99), some (vI l1), some (vI l2), some (vI l3), some (vI l4), some (vI l5), some (vI l6)], [], σ) (tV r) := by
  intro n
  induction n with
  | zero =>
    intro _ _ _ _ _ _ _ _ h
    exact nomatch (show (none : Option (xSt)) = some _ from h)
  | succ n ih =>
    intro l1 l2 l3 l4 l5 l6 σ r hf
    unfold f_Bits_spare_101 at hf
    refine run_seg (k := 5) (s' := (if w32 (l6 + 1) < l2 then (109, [some (vR 99), some (vI l1), some (vI l2), some (vI l3), some (vI l4), some (vI l5), some (vI l6)], [], σ) else (165, [some (vR 99), some (vI l1), some (vI l2), some (vI l3), some (vI l4), some (vI l5), some (vI l6)], [], σ))) rfl ?_
    refine run_ite hf (fun _ hf => ?_) (fun _ hf => ?_)
    · refine run_seg (k := 5) (s' := (117, [some (vR 99), some (vI l1), some (vI l2), some (vI l3), some (vI l4), some (vI l5), some (vI l6)], [vI (w32 (l1 + l6)), vR 101], σ)) rfl ?_
      refine run_callN (w := fun a => some (vI a)) (m := 17) (as := [vR 101, vI (w32 (l1 + l6))]) (pc := 120) (ls := [some (vR 99), some (vI l1), some (vI l2), some (vI l3), some (vI l4), some (vI l5), some (vI l6)]) (st' := []) (σ := σ) hf rfl (fun _ h => (c_Bits_throwAt_101 h).mono (Nat.le_trans (by decide) hd)) (fun r9 hf => ?_)
      refine run_seg (k := 7) (s' := (130, [some (vR 99), some (vI l1), some (vI l2), some (vI l3), some (vI l4), some (vI l5), some (vI l6)], [vI (w32 ((w32 (l1 + l6)) + 1)), vR 101, vI r9], σ)) rfl ?_
      refine run_callN (w := fun a => some (vI a)) (m := 17) (as := [vR 101, vI (w32 ((w32 (l1 + l6)) + 1))]) (pc := 133) (ls := [some (vR 99), some (vI l1), some (vI l2), some (vI l3), some (vI l4), some (vI l5), some (vI l6)]) (st' := [vI r9]) (σ := σ) hf rfl (fun _ h => (c_Bits_throwAt_101 h).mono (Nat.le_trans (by decide) hd)) (fun r10 hf => ?_)
      refine run_seg (k := 1) (s' := (if r9 = r10 then (136, [some (vR 99), some (vI l1), some (vI l2), some (vI l3), some (vI l4), some (vI l5), some (vI l6)], [], σ) else (159, [some (vR 99), some (vI l1), some (vI l2), some (vI l3), some (vI l4), some (vI l5), some (vI l6)], [], σ))) rfl ?_
      refine run_ite hf (fun _ hf => ?_) (fun _ hf => ?_)
      · refine run_seg (k := 9) (s' := (150, [some (vR 99), some (vI l1), some (vI l2), some (vI l3), some (vI l4), some (vI l5), some (vI l6)], [vI (w32 (l1 + l6)), vR 101, vI (w32 (l4 + l5)), vR 99], σ)) rfl ?_
        refine run_callN (w := fun a => some (vI a)) (m := 17) (as := [vR 101, vI (w32 (l1 + l6))]) (pc := 153) (ls := [some (vR 99), some (vI l1), some (vI l2), some (vI l3), some (vI l4), some (vI l5), some (vI l6)]) (st' := [vI (w32 (l4 + l5)), vR 99]) (σ := σ) hf rfl (fun _ h => (c_Bits_throwAt_101 h).mono (Nat.le_trans (by decide) hd)) (fun r11 hf => ?_)
        refine run_callV (m := 19) (as := [vR 99, vI (w32 (l4 + l5)), vI r11]) (pc := 156) (ls := [some (vR 99), some (vI l1), some (vI l2), some (vI l3), some (vI l4), some (vI l5), some (vI l6)]) (st' := []) (σ := σ) hf rfl (fun _ h => (c_Bits_note h).mono (Nat.le_trans (by decide) hd)) (fun σ12 hf => ?_)
        refine run_seg (k := 1) (s' := (159, [some (vR 99), some (vI l1), some (vI l2), some (vI l3), some (vI l4), some (vI (w32 (l5 + 1))), some (vI l6)], [], σ12)) rfl ?_
        refine run_let (fun x13 => (159, [some (vR 99), some (vI l1), some (vI l2), some (vI l3), some (vI l4), some (vI x13), some (vI l6)], [], σ12)) hf (fun x13 hf => ?_)
        refine run_seg (k := 1) (s' := (162, [some (vR 99), some (vI l1), some (vI l2), some (vI l3), some (vI l4), some (vI x13), some (vI (w32 (l6 + 2)))], [], σ12)) rfl ?_
        refine run_let (fun x14 => (162, [some (vR 99), some (vI l1), some (vI l2), some (vI l3), some (vI l4), some (vI x13), some (vI x14)], [], σ12)) hf (fun x14 hf => ?_)
        refine run_seg (k := 1) (s' := (101, [some (vR 99), some (vI l1), some (vI l2), some (vI l3), some (vI l4), some (vI x13), some (vI x14)], [], σ12)) rfl ?_
        exact ih hf
      · refine run_seg (k := 1) (s' := (162, [some (vR 99), some (vI l1), some (vI l2), some (vI l3), some (vI l4), some (vI l5), some (vI (w32 (l6 + 2)))], [], σ)) rfl ?_
        refine run_let (fun x15 => (162, [some (vR 99), some (vI l1), some (vI l2), some (vI l3), some (vI l4), some (vI l5), some (vI x15)], [], σ)) hf (fun x15 hf => ?_)
        refine run_seg (k := 1) (s' := (101, [some (vR 99), some (vI l1), some (vI l2), some (vI l3), some (vI l4), some (vI l5), some (vI x15)], [], σ)) rfl ?_
        exact ih hf
    · refine run_seg (k := 6) (s' := (173, [some (vR 99), some (vI l1), some (vI l2), some (vI l3), some (vI l4), some (vI l5), some (vI l6)], [vI (w32 (l3 + 1)), vI l5, vI l4, vR 99], σ)) rfl ?_
      refine run_callV (m := 20) (as := [vR 99, vI l4, vI l5, vI (w32 (l3 + 1))]) (pc := 176) (ls := [some (vR 99), some (vI l1), some (vI l2), some (vI l3), some (vI l4), some (vI l5), some (vI l6)]) (st' := []) (σ := σ) hf rfl (fun _ h => (hq_Bits_spare h)) (fun σ16 hf => ?_)
      exact run_ret hf rfl
theorem r_Bits_spare_33 {d : Nat} (hd : 3 ≤ d) {q_Bits_spare : (Int → Int → Int → xSt → Option (xSt))} (hq_Bits_spare : ∀ {p1 : Int} {p2 : Int} {p3 : Int} {σ : xSt} {r : xSt}, q_Bits_spare p1 p2 p3 σ = some r → Call d 20 [vR 99, vI p1, vI p2, vI p3] σ (tV r).1 (tV r).2) : ∀ (n : Nat) {l1 : Int} {l2 : Int} {l3 : Int} {l4 : Int} {l5 : Int} {l6 : Int} {σ : xSt} {r : xSt}, f_Bits_spare_33 q_Bits_spare n l1 l2 l3 l4 l5 l6 σ = some r → Run d 1 0 kX1_spare (33, [some (vR 99), some (vI l1), some (vI l2), some (vI l3), some (vI l4), some (vI l5), some (vI l6)], [], σ) (tV r) := by
  intro n
  induction n with
  | zero =>
    intro _ _ _ _ _ _ _ _ h
    exact nomatch (show (none : Option (xSt)) = some _ from h)
  | succ n ih =>
    intro l1 l2 l3 l4 l5 l6 σ r hf
    unfold f_Bits_spare_33 at hf
    refine run_seg (k := 5) (s' := (if w32 (l6 + 1) < l2 then (41, [some (vR 99), some (vI l1), some (vI l2), some (vI l3), some (vI l4), some (vI l5), some (vI l6)], [], σ) else (84, [some (vR 99), some (vI l1), some (vI l2), some (vI l3), some (vI l4), some (vI l5), some (vI l6)], [], σ))) rfl ?_
    refine run_ite hf (fun _ hf => ?_) (fun _ hf => ?_)
    · refine run_seg (k := 9) (s' := (55, [some (vR 99), some (vI l1), some (vI l2), some (vI l3), some (vI l4), some (vI l5), some (vI l6)], [vI (w32 (l1 + l6)), vR 101, vI (w32 (l4 + l5)), vR 99], σ)) rfl ?_
      refine run_callN (w := fun a => some (vI a)) (m := 17) (as := [vR 101, vI (w32 (l1 + l6))]) (pc := 58) (ls := [some (vR 99), some (vI l1), some (vI l2), some (vI l3), some (vI l4), some (vI l5), some (vI l6)]) (st' := [vI (w32 (l4 + l5)), vR 99]) (σ := σ) hf rfl (fun _ h => (c_Bits_throwAt_101 h).mono (Nat.le_trans (by decide) hd)) (fun r3 hf => ?_)
      refine run_seg (k := 7) (s' := (68, [some (vR 99), some (vI l1), some (vI l2), some (vI l3), some (vI l4), some (vI l5), some (vI l6)], [vI (w32 ((w32 (l1 + l6)) + 1)), vR 101, vI r3, vI (w32 (l4 + l5)), vR 99], σ)) rfl ?_
      refine run_callN (w := fun a => some (vI a)) (m := 17) (as := [vR 101, vI (w32 ((w32 (l1 + l6)) + 1))]) (pc := 71) (ls := [some (vR 99), some (vI l1), some (vI l2), some (vI l3), some (vI l4), some (vI l5), some (vI l6)]) (st' := [vI r3, vI (w32 (l4 + l5)), vR 99]) (σ := σ) hf rfl (fun _ h => (c_Bits_throwAt_101 h).mono (Nat.le_trans (by decide) hd)) (fun r4 hf => ?_)
      refine run_seg (k := 1) (s' := (72, [some (vR 99), some (vI l1), some (vI l2), some (vI l3), some (vI l4), some (vI l5), some (vI l6)], [vI (xxor r3 r4), vI (w32 (l4 + l5)), vR 99], σ)) rfl ?_
      refine run_callV (m := 19) (as := [vR 99, vI (w32 (l4 + l5)), vI (xxor r3 r4)]) (pc := 75) (ls := [some (vR 99), some (vI l1), some (vI l2), some (vI l3), some (vI l4), some (vI l5), some (vI l6)]) (st' := []) (σ := σ) hf rfl (fun _ h => (c_Bits_note h).mono (Nat.le_trans (by decide) hd)) (fun σ5 hf => ?_)
      refine run_seg (k := 1) (s' := (78, [some (vR 99), some (vI l1), some (vI l2), some (vI l3), some (vI l4), some (vI (w32 (l5 + 1))), some (vI l6)], [], σ5)) rfl ?_
      refine run_let (fun x6 => (78, [some (vR 99), some (vI l1), some (vI l2), some (vI l3), some (vI l4), some (vI x6), some (vI l6)], [], σ5)) hf (fun x6 hf => ?_)
      refine run_seg (k := 1) (s' := (81, [some (vR 99), some (vI l1), some (vI l2), some (vI l3), some (vI l4), some (vI x6), some (vI (w32 (l6 + 2)))], [], σ5)) rfl ?_
      refine run_let (fun x7 => (81, [some (vR 99), some (vI l1), some (vI l2), some (vI l3), some (vI l4), some (vI x6), some (vI x7)], [], σ5)) hf (fun x7 hf => ?_)
      refine run_seg (k := 1) (s' := (33, [some (vR 99), some (vI l1), some (vI l2), some (vI l3), some (vI l4), some (vI x6), some (vI x7)], [], σ5)) rfl ?_
      exact ih hf
    · refine run_seg (k := 6) (s' := (92, [some (vR 99), some (vI l1), some (vI l2), some (vI l3), some (vI l4), some (vI l5), some (vI l6)], [vI (w32 (l3 + 1)), vI l5, vI l4, vR 99], σ)) rfl ?_
      refine run_callV (m := 20) (as := [vR 99, vI l4, vI l5, vI (w32 (l3 + 1))]) (pc := 95) (ls := [some (vR 99), some (vI l1), some (vI l2), some (vI l3), some (vI l4), some (vI l5), some (vI l6)]) (st' := []) (σ := σ) hf rfl (fun _ h => (hq_Bits_spare h)) (fun σ8 hf => ?_)
      refine run_seg (k := 4) (s' := (101, [some (vR 99), some (vI l1), some (vI l2), some (vI l3), some (vI l4), some (vI 0), some (vI 0)], [], σ8)) rfl ?_
      exact r_Bits_spare_101 hd hq_Bits_spare 1000000 hf
theorem c0_Bits_spare {d : Nat} (hd : 3 ≤ d) {q_Bits_spare : (Int → Int → Int → xSt → Option (xSt))} (hq_Bits_spare : ∀ {p1 : Int} {p2 : Int} {p3 : Int} {σ : xSt} {r : xSt}, q_Bits_spare p1 p2 p3 σ = some r → Call d 20 [vR 99, vI p1, vI p2, vI p3] σ (tV r).1 (tV r).2) {p1 : Int} {p2 : Int} {p3 : Int} {σ : xSt} {r : xSt} (hf : f0_Bits_spare q_Bits_spare p1 p2 p3 σ = some r) : Call (d + 1) 20 [vR 99, vI p1, vI p2, vI p3] σ (tV r).1 (tV r).2 := by
  unfold f0_Bits_spare at hf
  refine call_of (own := 1) (rk := 0) (cd := kX1_spare) (ls := [some (vR 99), some (vI p1), some (vI p2), some (vI p3), none, none, none]) (rT := tV) rfl rfl rfl rfl rfl ?_
  refine run_seg (k := 3) (s' := (if p2 < 2 then (11, [some (vR 99), some (vI p1), some (vI p2), some (vI p3), none, none, none], [], σ) else (5, [some (vR 99), some (vI p1), some (vI p2), some (vI p3), none, none, none], [], σ))) rfl ?_
  refine run_ite hf (fun _ hf => ?_) (fun _ hf => ?_)
  · exact run_ret hf rfl
  · refine run_seg (k := 3) (s' := (if 12 < p3 then (11, [some (vR 99), some (vI p1), some (vI p2), some (vI p3), none, none, none], [], σ) else (12, [some (vR 99), some (vI p1), some (vI p2), some (vI p3), none, none, none], [], σ))) rfl ?_
    refine run_ite hf (fun _ hf => ?_) (fun _ hf => ?_)
    · exact run_ret hf rfl
    · refine run_seg (k := 5) (s' := (19, [some (vR 99), some (vI p1), some (vI p2), some (vI p3), none, none, none], [vI p2, vI p1, vR 101, vR 99], σ)) rfl ?_
      refine run_callV (m := 16) (as := [vR 99, vR 101, vI p1, vI p2]) (pc := 22) (ls := [some (vR 99), some (vI p1), some (vI p2), some (vI p3), none, none, none]) (st' := []) (σ := σ) hf rfl (fun _ h => (c_Bits_addPairs_101 h).mono (Nat.le_trans (by decide) hd)) (fun σ1 hf => ?_)
      refine run_seg (k := 4) (s' := (27, [some (vR 99), some (vI p1), some (vI p2), some (vI p3), some (vI (w32 (p1 + p2))), none, none], [], σ1)) rfl ?_
      refine run_let (fun x2 => (27, [some (vR 99), some (vI p1), some (vI p2), some (vI p3), some (vI x2), none, none], [], σ1)) hf (fun x2 hf => ?_)
      refine run_seg (k := 4) (s' := (33, [some (vR 99), some (vI p1), some (vI p2), some (vI p3), some (vI x2), some (vI 0), some (vI 0)], [], σ1)) rfl ?_
      exact r_Bits_spare_33 hd hq_Bits_spare 1000000 hf
def g_Bits_spare : Nat → (Int → Int → Int → xSt → Option (xSt))
  | 0 => ((fun _ _ _ _ => none))
  | n + 1 => ((fun p1 p2 p3 σ => f0_Bits_spare (g_Bits_spare n) p1 p2 p3 σ))
def f_Bits_spare (n : Nat) (p1 : Int) (p2 : Int) (p3 : Int) (σ : xSt) : Option (xSt) := g_Bits_spare n p1 p2 p3 σ
theorem hg_Bits_spare : ∀ n, (∀ {p1 : Int} {p2 : Int} {p3 : Int} {σ : xSt} {r : xSt}, f_Bits_spare n p1 p2 p3 σ = some r → Call (3 + n) 20 [vR 99, vI p1, vI p2, vI p3] σ (tV r).1 (tV r).2) := by
  intro n
  induction n with
  | zero => exact fun h => nomatch (show (none : Option (xSt)) = some _ from h)
  | succ n ih => exact fun h => c0_Bits_spare (Nat.le_add_right 3 n) (fun h => ih h) h
theorem c_Bits_spare {p1 : Int} {p2 : Int} {p3 : Int} {σ : xSt} {r : xSt} (hf : f_Bits_spare 60 p1 p2 p3 σ = some r) : Call 63 20 [vR 99, vI p1, vI p2, vI p3] σ (tV r).1 (tV r).2 := (hg_Bits_spare 60) hf
def f_Bits_bySparing_7 : Nat → Int → Int → xSt → Option (Int × xSt)
  | 0, _, _, _ => none
  | n + 1, l2, l3, σ =>
    if l3 < l2 then (xbR (f_Bits_throwAt 98 l3 σ) fun r2 =>
    xbR (f_Bits_note l3 r2 σ) fun σ3 =>
    xlet (w32 (l3 + 1)) fun x4 =>
    f_Bits_bySparing_7 n l2 x4 σ3)
    else (xbR (f_Bits_spare 60 0 l2 0 σ) fun σ5 =>
    some (σ5 99 1, σ5))
/-- BentPenny$Bits.bySparing([BI)I -/
def f_Bits_bySparing (p2 : Int) (σ : xSt) : Option (Int × xSt) :=
  xlet (upS σ 99 1 0) fun σ1 =>
  f_Bits_bySparing_7 1000000 p2 0 σ1
theorem r_Bits_bySparing_7 : ∀ (n : Nat) {l2 : Int} {l3 : Int} {σ : xSt} {r : Int × xSt}, f_Bits_bySparing_7 n l2 l3 σ = some r → Run 63 1 1 kX1_bySparing (7, [some (vR 99), some (vR 98), some (vI l2), some (vI l3)], [], σ) (tIW r) := by
  intro n
  induction n with
  | zero =>
    intro _ _ _ _ h
    exact nomatch (show (none : Option (Int × xSt)) = some _ from h)
  | succ n ih =>
    intro l2 l3 σ r hf
    unfold f_Bits_bySparing_7 at hf
    refine run_seg (k := 3) (s' := (if l3 < l2 then (12, [some (vR 99), some (vR 98), some (vI l2), some (vI l3)], [], σ) else (28, [some (vR 99), some (vR 98), some (vI l2), some (vI l3)], [], σ))) rfl ?_
    refine run_ite hf (fun _ hf => ?_) (fun _ hf => ?_)
    · refine run_seg (k := 4) (s' := (16, [some (vR 99), some (vR 98), some (vI l2), some (vI l3)], [vI l3, vR 98, vI l3, vR 99], σ)) rfl ?_
      refine run_callN (w := fun a => some (vI a)) (m := 17) (as := [vR 98, vI l3]) (pc := 19) (ls := [some (vR 99), some (vR 98), some (vI l2), some (vI l3)]) (st' := [vI l3, vR 99]) (σ := σ) hf rfl (fun _ h => (c_Bits_throwAt_98 h).mono (by decide)) (fun r2 hf => ?_)
      refine run_callV (m := 19) (as := [vR 99, vI l3, vI r2]) (pc := 22) (ls := [some (vR 99), some (vR 98), some (vI l2), some (vI l3)]) (st' := []) (σ := σ) hf rfl (fun _ h => (c_Bits_note h).mono (by decide)) (fun σ3 hf => ?_)
      refine run_seg (k := 1) (s' := (25, [some (vR 99), some (vR 98), some (vI l2), some (vI (w32 (l3 + 1)))], [], σ3)) rfl ?_
      refine run_let (fun x4 => (25, [some (vR 99), some (vR 98), some (vI l2), some (vI x4)], [], σ3)) hf (fun x4 hf => ?_)
      refine run_seg (k := 1) (s' := (7, [some (vR 99), some (vR 98), some (vI l2), some (vI x4)], [], σ3)) rfl ?_
      exact ih hf
    · refine run_seg (k := 4) (s' := (32, [some (vR 99), some (vR 98), some (vI l2), some (vI l3)], [vI 0, vI l2, vI 0, vR 99], σ)) rfl ?_
      refine run_callV (m := 20) (as := [vR 99, vI 0, vI l2, vI 0]) (pc := 35) (ls := [some (vR 99), some (vR 98), some (vI l2), some (vI l3)]) (st' := []) (σ := σ) hf rfl (fun _ h => (c_Bits_spare h).mono (by decide)) (fun σ5 hf => ?_)
      refine run_seg (k := 2) (s' := (39, [some (vR 99), some (vR 98), some (vI l2), some (vI l3)], [vI (σ5 99 1)], σ5)) rfl ?_
      exact run_ret hf rfl
theorem c_Bits_bySparing {p2 : Int} {σ : xSt} {r : Int × xSt} (hf : f_Bits_bySparing p2 σ = some r) : Call (63 + 1) 18 [vR 99, vR 98, vI p2] σ (tIW r).1 (tIW r).2 := by
  unfold f_Bits_bySparing at hf
  refine call_of (own := 1) (rk := 1) (cd := kX1_bySparing) (ls := [some (vR 99), some (vR 98), some (vI p2), none]) (rT := tIW) rfl rfl rfl rfl rfl ?_
  refine run_seg (k := 3) (s' := (5, [some (vR 99), some (vR 98), some (vI p2), none], [], upS σ 99 1 0)) rfl ?_
  refine run_let (fun σ1 => (5, [some (vR 99), some (vR 98), some (vI p2), none], [], σ1)) hf (fun σ1 hf => ?_)
  refine run_seg (k := 2) (s' := (7, [some (vR 99), some (vR 98), some (vI p2), some (vI 0)], [], σ1)) rfl ?_
  exact r_Bits_bySparing_7 1000000 hf
/-- BentPenny.spared()I -/
def f_X_spared (σ : xSt) : Option (Int × xSt) :=
  xbW (f_X_takeRow 0 600 σ) fun r1 σ2 =>
  if r1 = (-1) then (some ((-1), σ2))
  else (xbW (f_Bits_bySparing r1 σ2) fun r3 σ4 =>
  some (r3, σ4))
theorem c_X_spared {σ : xSt} {r : Int × xSt} (hf : f_X_spared σ = some r) : Call (64 + 1) 175 [vR 0] σ (tIW r).1 (tIW r).2 := by
  unfold f_X_spared at hf
  refine call_of (own := 11) (rk := 1) (cd := kX11_spared) (ls := [some (vR 0), none]) (rT := tIW) rfl rfl rfl rfl rfl ?_
  refine run_seg (k := 3) (s' := (5, [some (vR 0), none], [vI 600, vI 0, vR 0], σ)) rfl ?_
  refine run_callW (w := fun a => some (vI a)) (m := 153) (as := [vR 0, vI 0, vI 600]) (pc := 8) (ls := [some (vR 0), none]) (st' := []) (σ := σ) hf rfl (fun _ _ h => (c_X_takeRow h).mono (by decide)) (fun r1 σ2 hf => ?_)
  refine run_seg (k := 4) (s' := (if r1 = (-1) then (14, [some (vR 0), some (vI r1)], [], σ2) else (18, [some (vR 0), some (vI r1)], [], σ2))) rfl ?_
  refine run_ite hf (fun _ hf => ?_) (fun _ hf => ?_)
  · refine run_seg (k := 2) (s' := (30, [some (vR 0), some (vI r1)], [vI (-1)], σ2)) rfl ?_
    exact run_ret hf rfl
  · refine run_seg (k := 5) (s' := (27, [some (vR 0), some (vI r1)], [vI r1, vR 98, vR 99], σ2)) rfl ?_
    refine run_callW (w := fun a => some (vI a)) (m := 18) (as := [vR 99, vR 98, vI r1]) (pc := 30) (ls := [some (vR 0), some (vI r1)]) (st' := []) (σ := σ2) hf rfl (fun _ _ h => (c_Bits_bySparing h).mono (by decide)) (fun r3 σ4 hf => ?_)
    exact run_ret hf rfl
def f_Bits_addPairsBehind_6 : Nat → Int → Int → Int → Int → xSt → Option (xSt)
  | 0, _, _, _, _, _ => none
  | n + 1, l2, l3, l4, l5, σ =>
    if w32 (l5 + 1) < l2 then (xbR (f_Bits_throwAt 98 l5 σ) fun r1 =>
    if r1 = l3 then (xbR (f_Bits_throwAt 98 (w32 (l5 + 1)) σ) fun r2 =>
    xbR (f_Bits_note l4 r2 σ) fun σ3 =>
    xlet (w32 (l4 + 1)) fun x4 =>
    xlet (w32 (l5 + 1)) fun x5 =>
    f_Bits_addPairsBehind_6 n l2 l3 x4 x5 σ3)
    else (xlet (w32 (l5 + 1)) fun x6 =>
    f_Bits_addPairsBehind_6 n l2 l3 l4 x6 σ))
    else (xbR (f_Bits_addPairs 101 0 (w32 (l4 - 1)) σ) fun σ7 =>
    some σ7)
/-- BentPenny$Bits.addPairsBehind([BII)V -/
def f_Bits_addPairsBehind (p2 : Int) (p3 : Int) (σ : xSt) : Option (xSt) :=
  f_Bits_addPairsBehind_6 1000000 p2 p3 0 0 σ
theorem r_Bits_addPairsBehind_6 : ∀ (n : Nat) {l2 : Int} {l3 : Int} {l4 : Int} {l5 : Int} {σ : xSt} {r : xSt}, f_Bits_addPairsBehind_6 n l2 l3 l4 l5 σ = some r → Run 3 1 0 kX1_addPairsBehind (6, [some (vR 99), some (vR 98), some (vI l2), some (vI l3), some (vI l4), some (vI l5)], [], σ) (tV r) := by
  intro n
  induction n with
  | zero =>
    intro _ _ _ _ _ _ h
    exact nomatch (show (none : Option (xSt)) = some _ from h)
  | succ n ih =>
    intro l2 l3 l4 l5 σ r hf
    unfold f_Bits_addPairsBehind_6 at hf
    refine run_seg (k := 5) (s' := (if w32 (l5 + 1) < l2 then (14, [some (vR 99), some (vR 98), some (vI l2), some (vI l3), some (vI l4), some (vI l5)], [], σ) else (47, [some (vR 99), some (vR 98), some (vI l2), some (vI l3), some (vI l4), some (vI l5)], [], σ))) rfl ?_
    refine run_ite hf (fun _ hf => ?_) (fun _ hf => ?_)
    · refine run_seg (k := 2) (s' := (17, [some (vR 99), some (vR 98), some (vI l2), some (vI l3), some (vI l4), some (vI l5)], [vI l5, vR 98], σ)) rfl ?_
      refine run_callN (w := fun a => some (vI a)) (m := 17) (as := [vR 98, vI l5]) (pc := 20) (ls := [some (vR 99), some (vR 98), some (vI l2), some (vI l3), some (vI l4), some (vI l5)]) (st' := []) (σ := σ) hf rfl (fun _ h => (c_Bits_throwAt_98 h).mono (by decide)) (fun r1 hf => ?_)
      refine run_seg (k := 2) (s' := (if r1 = l3 then (24, [some (vR 99), some (vR 98), some (vI l2), some (vI l3), some (vI l4), some (vI l5)], [], σ) else (41, [some (vR 99), some (vR 98), some (vI l2), some (vI l3), some (vI l4), some (vI l5)], [], σ))) rfl ?_
      refine run_ite hf (fun _ hf => ?_) (fun _ hf => ?_)
      · refine run_seg (k := 6) (s' := (32, [some (vR 99), some (vR 98), some (vI l2), some (vI l3), some (vI l4), some (vI l5)], [vI (w32 (l5 + 1)), vR 98, vI l4, vR 99], σ)) rfl ?_
        refine run_callN (w := fun a => some (vI a)) (m := 17) (as := [vR 98, vI (w32 (l5 + 1))]) (pc := 35) (ls := [some (vR 99), some (vR 98), some (vI l2), some (vI l3), some (vI l4), some (vI l5)]) (st' := [vI l4, vR 99]) (σ := σ) hf rfl (fun _ h => (c_Bits_throwAt_98 h).mono (by decide)) (fun r2 hf => ?_)
        refine run_callV (m := 19) (as := [vR 99, vI l4, vI r2]) (pc := 38) (ls := [some (vR 99), some (vR 98), some (vI l2), some (vI l3), some (vI l4), some (vI l5)]) (st' := []) (σ := σ) hf rfl (fun _ h => (c_Bits_note h).mono (by decide)) (fun σ3 hf => ?_)
        refine run_seg (k := 1) (s' := (41, [some (vR 99), some (vR 98), some (vI l2), some (vI l3), some (vI (w32 (l4 + 1))), some (vI l5)], [], σ3)) rfl ?_
        refine run_let (fun x4 => (41, [some (vR 99), some (vR 98), some (vI l2), some (vI l3), some (vI x4), some (vI l5)], [], σ3)) hf (fun x4 hf => ?_)
        refine run_seg (k := 1) (s' := (44, [some (vR 99), some (vR 98), some (vI l2), some (vI l3), some (vI x4), some (vI (w32 (l5 + 1)))], [], σ3)) rfl ?_
        refine run_let (fun x5 => (44, [some (vR 99), some (vR 98), some (vI l2), some (vI l3), some (vI x4), some (vI x5)], [], σ3)) hf (fun x5 hf => ?_)
        refine run_seg (k := 1) (s' := (6, [some (vR 99), some (vR 98), some (vI l2), some (vI l3), some (vI x4), some (vI x5)], [], σ3)) rfl ?_
        exact ih hf
      · refine run_seg (k := 1) (s' := (44, [some (vR 99), some (vR 98), some (vI l2), some (vI l3), some (vI l4), some (vI (w32 (l5 + 1)))], [], σ)) rfl ?_
        refine run_let (fun x6 => (44, [some (vR 99), some (vR 98), some (vI l2), some (vI l3), some (vI l4), some (vI x6)], [], σ)) hf (fun x6 hf => ?_)
        refine run_seg (k := 1) (s' := (6, [some (vR 99), some (vR 98), some (vI l2), some (vI l3), some (vI l4), some (vI x6)], [], σ)) rfl ?_
        exact ih hf
    · refine run_seg (k := 7) (s' := (57, [some (vR 99), some (vR 98), some (vI l2), some (vI l3), some (vI l4), some (vI l5)], [vI (w32 (l4 - 1)), vI 0, vR 101, vR 99], σ)) rfl ?_
      refine run_callV (m := 16) (as := [vR 99, vR 101, vI 0, vI (w32 (l4 - 1))]) (pc := 60) (ls := [some (vR 99), some (vR 98), some (vI l2), some (vI l3), some (vI l4), some (vI l5)]) (st' := []) (σ := σ) hf rfl (fun _ h => (c_Bits_addPairs_101 h).mono (by decide)) (fun σ7 hf => ?_)
      exact run_ret hf rfl
theorem c_Bits_addPairsBehind {p2 : Int} {p3 : Int} {σ : xSt} {r : xSt} (hf : f_Bits_addPairsBehind p2 p3 σ = some r) : Call (3 + 1) 22 [vR 99, vR 98, vI p2, vI p3] σ (tV r).1 (tV r).2 := by
  unfold f_Bits_addPairsBehind at hf
  refine call_of (own := 1) (rk := 0) (cd := kX1_addPairsBehind) (ls := [some (vR 99), some (vR 98), some (vI p2), some (vI p3), none, none]) (rT := tV) rfl rfl rfl rfl rfl ?_
  refine run_seg (k := 4) (s' := (6, [some (vR 99), some (vR 98), some (vI p2), some (vI p3), some (vI 0), some (vI 0)], [], σ)) rfl ?_
  exact r_Bits_addPairsBehind_6 1000000 hf
/-- BentPenny$Bits.byPasts([BI)I -/
def f_Bits_byPasts (p2 : Int) (σ : xSt) : Option (Int × xSt) :=
  xlet (upS σ 99 1 0) fun σ1 =>
  xbR (f_Bits_addPairsBehind p2 1 σ1) fun σ2 =>
  xbR (f_Bits_addPairsBehind p2 0 σ2) fun σ3 =>
  some (σ3 99 1, σ3)
theorem c_Bits_byPasts {p2 : Int} {σ : xSt} {r : Int × xSt} (hf : f_Bits_byPasts p2 σ = some r) : Call (4 + 1) 21 [vR 99, vR 98, vI p2] σ (tIW r).1 (tIW r).2 := by
  unfold f_Bits_byPasts at hf
  refine call_of (own := 1) (rk := 1) (cd := kX1_byPasts) (ls := [some (vR 99), some (vR 98), some (vI p2)]) (rT := tIW) rfl rfl rfl rfl rfl ?_
  refine run_seg (k := 3) (s' := (5, [some (vR 99), some (vR 98), some (vI p2)], [], upS σ 99 1 0)) rfl ?_
  refine run_let (fun σ1 => (5, [some (vR 99), some (vR 98), some (vI p2)], [], σ1)) hf (fun σ1 hf => ?_)
  refine run_seg (k := 4) (s' := (9, [some (vR 99), some (vR 98), some (vI p2)], [vI 1, vI p2, vR 98, vR 99], σ1)) rfl ?_
  refine run_callV (m := 22) (as := [vR 99, vR 98, vI p2, vI 1]) (pc := 12) (ls := [some (vR 99), some (vR 98), some (vI p2)]) (st' := []) (σ := σ1) hf rfl (fun _ h => (c_Bits_addPairsBehind h).mono (by decide)) (fun σ2 hf => ?_)
  refine run_seg (k := 4) (s' := (16, [some (vR 99), some (vR 98), some (vI p2)], [vI 0, vI p2, vR 98, vR 99], σ2)) rfl ?_
  refine run_callV (m := 22) (as := [vR 99, vR 98, vI p2, vI 0]) (pc := 19) (ls := [some (vR 99), some (vR 98), some (vI p2)]) (st' := []) (σ := σ2) hf rfl (fun _ h => (c_Bits_addPairsBehind h).mono (by decide)) (fun σ3 hf => ?_)
  refine run_seg (k := 2) (s' := (23, [some (vR 99), some (vR 98), some (vI p2)], [vI (σ3 99 1)], σ3)) rfl ?_
  exact run_ret hf rfl
/-- BentPenny.pasts()I -/
def f_X_pasts (σ : xSt) : Option (Int × xSt) :=
  xbW (f_X_takeRow 0 600 σ) fun r1 σ2 =>
  if r1 = (-1) then (some ((-1), σ2))
  else (xbW (f_Bits_byPasts r1 σ2) fun r3 σ4 =>
  some (r3, σ4))
theorem c_X_pasts {σ : xSt} {r : Int × xSt} (hf : f_X_pasts σ = some r) : Call (5 + 1) 176 [vR 0] σ (tIW r).1 (tIW r).2 := by
  unfold f_X_pasts at hf
  refine call_of (own := 11) (rk := 1) (cd := kX11_pasts) (ls := [some (vR 0), none]) (rT := tIW) rfl rfl rfl rfl rfl ?_
  refine run_seg (k := 3) (s' := (5, [some (vR 0), none], [vI 600, vI 0, vR 0], σ)) rfl ?_
  refine run_callW (w := fun a => some (vI a)) (m := 153) (as := [vR 0, vI 0, vI 600]) (pc := 8) (ls := [some (vR 0), none]) (st' := []) (σ := σ) hf rfl (fun _ _ h => (c_X_takeRow h).mono (by decide)) (fun r1 σ2 hf => ?_)
  refine run_seg (k := 4) (s' := (if r1 = (-1) then (14, [some (vR 0), some (vI r1)], [], σ2) else (18, [some (vR 0), some (vI r1)], [], σ2))) rfl ?_
  refine run_ite hf (fun _ hf => ?_) (fun _ hf => ?_)
  · refine run_seg (k := 2) (s' := (30, [some (vR 0), some (vI r1)], [vI (-1)], σ2)) rfl ?_
    exact run_ret hf rfl
  · refine run_seg (k := 5) (s' := (27, [some (vR 0), some (vI r1)], [vI r1, vR 98, vR 99], σ2)) rfl ?_
    refine run_callW (w := fun a => some (vI a)) (m := 21) (as := [vR 99, vR 98, vI r1]) (pc := 30) (ls := [some (vR 0), some (vI r1)]) (st' := []) (σ := σ2) hf rfl (fun _ _ h => (c_Bits_byPasts h).mono (by decide)) (fun r3 σ4 hf => ?_)
    exact run_ret hf rfl
def f_Bits_placeOf_8 : Nat → Int → Int → Int → Int → xSt → Option (Int)
  | 0, _, _, _, _, _ => none
  | n + 1, l1, l3, l5, l6, σ =>
    if l6 < l1 then (xbR (f_Bits_throwAt 98 l6 σ) fun r1 =>
    if r1 = 1 then (xbR (f_Fraction_choices (w32 ((w32 (l1 - l6)) - 1)) l5 σ) fun r2 =>
    xlet (w64 (l3 + r2)) fun x3 =>
    xlet (w32 (l5 + (-1))) fun x4 =>
    xlet (w32 (l6 + 1)) fun x5 =>
    f_Bits_placeOf_8 n l1 x3 x4 x5 σ)
    else (xlet (w32 (l6 + 1)) fun x6 =>
    f_Bits_placeOf_8 n l1 l3 l5 x6 σ))
    else (some l3)
/-- BentPenny$Bits.placeOf([BII)J -/
def f_Bits_placeOf (p1 : Int) (p2 : Int) (σ : xSt) : Option (Int) :=
  f_Bits_placeOf_8 1000000 p1 0 p2 0 σ
theorem r_Bits_placeOf_8 : ∀ (n : Nat) {l1 : Int} {l3 : Int} {l5 : Int} {l6 : Int} {g2 : Option xV} {σ : xSt} {r : Int}, f_Bits_placeOf_8 n l1 l3 l5 l6 σ = some r → Run 2 1 3 kX1_placeOf (8, [some (vR 98), some (vI l1), g2, some (vL l3), none, some (vI l5), some (vI l6)], [], σ) ((tL σ) r) := by
  intro n
  induction n with
  | zero =>
    intro _ _ _ _ _ _ _ h
    exact nomatch (show (none : Option (Int)) = some _ from h)
  | succ n ih =>
    intro l1 l3 l5 l6 g2 σ r hf
    unfold f_Bits_placeOf_8 at hf
    refine run_seg (k := 3) (s' := (if l6 < l1 then (14, [some (vR 98), some (vI l1), g2, some (vL l3), none, some (vI l5), some (vI l6)], [], σ) else (47, [some (vR 98), some (vI l1), g2, some (vL l3), none, some (vI l5), some (vI l6)], [], σ))) rfl ?_
    refine run_ite hf (fun _ hf => ?_) (fun _ hf => ?_)
    · refine run_seg (k := 2) (s' := (17, [some (vR 98), some (vI l1), g2, some (vL l3), none, some (vI l5), some (vI l6)], [vI l6, vR 98], σ)) rfl ?_
      refine run_callN (w := fun a => some (vI a)) (m := 17) (as := [vR 98, vI l6]) (pc := 20) (ls := [some (vR 98), some (vI l1), g2, some (vL l3), none, some (vI l5), some (vI l6)]) (st' := []) (σ := σ) hf rfl (fun _ h => (c_Bits_throwAt_98 h).mono (by decide)) (fun r1 hf => ?_)
      refine run_seg (k := 2) (s' := (if r1 = 1 then (24, [some (vR 98), some (vI l1), g2, some (vL l3), none, some (vI l5), some (vI l6)], [], σ) else (41, [some (vR 98), some (vI l1), g2, some (vL l3), none, some (vI l5), some (vI l6)], [], σ))) rfl ?_
      refine run_ite hf (fun _ hf => ?_) (fun _ hf => ?_)
      · refine run_seg (k := 7) (s' := (33, [some (vR 98), some (vI l1), g2, some (vL l3), none, some (vI l5), some (vI l6)], [vI l5, vI (w32 ((w32 (l1 - l6)) - 1)), vL l3], σ)) rfl ?_
        refine run_callN (w := fun a => some (vL a)) (m := 32) (as := [vI (w32 ((w32 (l1 - l6)) - 1)), vI l5]) (pc := 36) (ls := [some (vR 98), some (vI l1), g2, some (vL l3), none, some (vI l5), some (vI l6)]) (st' := [vL l3]) (σ := σ) hf rfl (fun _ h => (c_Fraction_choices h).mono (by decide)) (fun r2 hf => ?_)
        refine run_seg (k := 2) (s' := (38, [some (vR 98), some (vI l1), g2, some (vL (w64 (l3 + r2))), none, some (vI l5), some (vI l6)], [], σ)) rfl ?_
        refine run_let (fun x3 => (38, [some (vR 98), some (vI l1), g2, some (vL x3), none, some (vI l5), some (vI l6)], [], σ)) hf (fun x3 hf => ?_)
        refine run_seg (k := 1) (s' := (41, [some (vR 98), some (vI l1), g2, some (vL x3), none, some (vI (w32 (l5 + (-1)))), some (vI l6)], [], σ)) rfl ?_
        refine run_let (fun x4 => (41, [some (vR 98), some (vI l1), g2, some (vL x3), none, some (vI x4), some (vI l6)], [], σ)) hf (fun x4 hf => ?_)
        refine run_seg (k := 1) (s' := (44, [some (vR 98), some (vI l1), g2, some (vL x3), none, some (vI x4), some (vI (w32 (l6 + 1)))], [], σ)) rfl ?_
        refine run_let (fun x5 => (44, [some (vR 98), some (vI l1), g2, some (vL x3), none, some (vI x4), some (vI x5)], [], σ)) hf (fun x5 hf => ?_)
        refine run_seg (k := 1) (s' := (8, [some (vR 98), some (vI l1), g2, some (vL x3), none, some (vI x4), some (vI x5)], [], σ)) rfl ?_
        exact ih hf
      · refine run_seg (k := 1) (s' := (44, [some (vR 98), some (vI l1), g2, some (vL l3), none, some (vI l5), some (vI (w32 (l6 + 1)))], [], σ)) rfl ?_
        refine run_let (fun x6 => (44, [some (vR 98), some (vI l1), g2, some (vL l3), none, some (vI l5), some (vI x6)], [], σ)) hf (fun x6 hf => ?_)
        refine run_seg (k := 1) (s' := (8, [some (vR 98), some (vI l1), g2, some (vL l3), none, some (vI l5), some (vI x6)], [], σ)) rfl ?_
        exact ih hf
    · refine run_seg (k := 1) (s' := (48, [some (vR 98), some (vI l1), g2, some (vL l3), none, some (vI l5), some (vI l6)], [vL l3], σ)) rfl ?_
      exact run_ret hf rfl
theorem c_Bits_placeOf {p1 : Int} {p2 : Int} {σ : xSt} {r : Int} (hf : f_Bits_placeOf p1 p2 σ = some r) : Call (2 + 1) 24 [vR 98, vI p1, vI p2] σ ((tL σ) r).1 ((tL σ) r).2 := by
  unfold f_Bits_placeOf at hf
  refine call_of (own := 1) (rk := 3) (cd := kX1_placeOf) (ls := [some (vR 98), some (vI p1), some (vI p2), none, none, none, none]) (rT := (tL σ)) rfl rfl rfl rfl rfl ?_
  refine run_seg (k := 6) (s' := (8, [some (vR 98), some (vI p1), some (vI p2), some (vL 0), none, some (vI p2), some (vI 0)], [], σ)) rfl ?_
  exact r_Bits_placeOf_8 1000000 hf
def f_Bits_addLowest_5 : Nat → Int → Int → xSt → Option (xSt)
  | 0, _, _, _ => none
  | n + 1, l1, l4, σ =>
    if l4 < 0 then (some σ)
    else (xbR (f_Bits_add (w32 (xland (xlshr l1 l4) 1)) σ) fun σ2 =>
    xlet (w32 (l4 + (-1))) fun x3 =>
    f_Bits_addLowest_5 n l1 x3 σ2)
/-- BentPenny$Bits.addLowest(JI)V -/
def f_Bits_addLowest (p1 : Int) (p2 : Int) (σ : xSt) : Option (xSt) :=
  xlet (w32 (p2 - 1)) fun x1 =>
  f_Bits_addLowest_5 1000000 p1 x1 σ
theorem r_Bits_addLowest_5 : ∀ (n : Nat) {l1 : Int} {l4 : Int} {g3 : Option xV} {σ : xSt} {r : xSt}, f_Bits_addLowest_5 n l1 l4 σ = some r → Run 2 1 0 kX1_addLowest (5, [some (vR 99), some (vL l1), none, g3, some (vI l4)], [], σ) (tV r) := by
  intro n
  induction n with
  | zero =>
    intro _ _ _ _ _ h
    exact nomatch (show (none : Option (xSt)) = some _ from h)
  | succ n ih =>
    intro l1 l4 g3 σ r hf
    unfold f_Bits_addLowest_5 at hf
    refine run_seg (k := 2) (s' := (if l4 < 0 then (27, [some (vR 99), some (vL l1), none, g3, some (vI l4)], [], σ) else (10, [some (vR 99), some (vL l1), none, g3, some (vI l4)], [], σ))) rfl ?_
    refine run_ite hf (fun _ hf => ?_) (fun _ hf => ?_)
    · exact run_ret hf rfl
    · refine run_seg (k := 7) (s' := (18, [some (vR 99), some (vL l1), none, g3, some (vI l4)], [vI (w32 (xland (xlshr l1 l4) 1)), vR 99], σ)) rfl ?_
      refine run_callV (m := 14) (as := [vR 99, vI (w32 (xland (xlshr l1 l4) 1))]) (pc := 21) (ls := [some (vR 99), some (vL l1), none, g3, some (vI l4)]) (st' := []) (σ := σ) hf rfl (fun _ h => (c_Bits_add h).mono (by decide)) (fun σ2 hf => ?_)
      refine run_seg (k := 1) (s' := (24, [some (vR 99), some (vL l1), none, g3, some (vI (w32 (l4 + (-1))))], [], σ2)) rfl ?_
      refine run_let (fun x3 => (24, [some (vR 99), some (vL l1), none, g3, some (vI x3)], [], σ2)) hf (fun x3 hf => ?_)
      refine run_seg (k := 1) (s' := (5, [some (vR 99), some (vL l1), none, g3, some (vI x3)], [], σ2)) rfl ?_
      exact ih hf
theorem c_Bits_addLowest {p1 : Int} {p2 : Int} {σ : xSt} {r : xSt} (hf : f_Bits_addLowest p1 p2 σ = some r) : Call (2 + 1) 25 [vR 99, vL p1, vI p2] σ (tV r).1 (tV r).2 := by
  unfold f_Bits_addLowest at hf
  refine call_of (own := 1) (rk := 0) (cd := kX1_addLowest) (ls := [some (vR 99), some (vL p1), none, some (vI p2), none]) (rT := tV) rfl rfl rfl rfl rfl ?_
  refine run_seg (k := 4) (s' := (5, [some (vR 99), some (vL p1), none, some (vI p2), some (vI (w32 (p2 - 1)))], [], σ)) rfl ?_
  refine run_let (fun x1 => (5, [some (vR 99), some (vL p1), none, some (vI p2), some (vI x1)], [], σ)) hf (fun x1 hf => ?_)
  exact r_Bits_addLowest_5 1000000 hf
def f_Bits_byCounting_50 : Nat → Int → Int → Int → xSt → Option (Int × xSt)
  | 0, _, _, _, _ => none
  | n + 1, l4, l6, l8, σ =>
    if l8 < 0 then (some (σ 99 1, σ))
    else (xlet (xlshl 1 l8) fun x7 =>
    if xlc (xland l6 x7) 0 = 0 then (xlet (w32 (l8 + (-1))) fun x8 =>
    f_Bits_byCounting_50 n l4 l6 x8 σ)
    else (if xlc l4 x7 < 0 then (xbR (f_Bits_addLowest l4 l8 σ) fun σ9 =>
    some (σ9 99 1, σ9))
    else (xlet (w64 (l4 - x7)) fun x10 =>
    xlet (w32 (l8 + (-1))) fun x11 =>
    f_Bits_byCounting_50 n x10 l6 x11 σ)))
def f_Bits_byCounting_10 : Nat → Int → Int → Int → xSt → Option (Int × xSt)
  | 0, _, _, _, _ => none
  | n + 1, l2, l3, l4, σ =>
    if l4 < l2 then (xbR (f_Bits_throwAt 98 l4 σ) fun r2 =>
    xlet (w32 (l3 + r2)) fun x3 =>
    xlet (w32 (l4 + 1)) fun x4 =>
    f_Bits_byCounting_10 n l2 x3 x4 σ)
    else (xbR (f_Bits_placeOf l2 l3 σ) fun r5 =>
    xbR (f_Fraction_choices l2 l3 σ) fun r6 =>
    f_Bits_byCounting_50 1000000 r5 r6 16 σ)
/-- BentPenny$Bits.byCounting([BI)I -/
def f_Bits_byCounting (p2 : Int) (σ : xSt) : Option (Int × xSt) :=
  xlet (upS σ 99 1 0) fun σ1 =>
  f_Bits_byCounting_10 1000000 p2 0 0 σ1
theorem r_Bits_byCounting_50 : ∀ (n : Nat) {l4 : Int} {l6 : Int} {l8 : Int} {g1 : Option xV} {g2 : Option xV} {g3 : Option xV} {g9 : Option xV} {g10 : Option xV} {σ : xSt} {r : Int × xSt}, f_Bits_byCounting_50 n l4 l6 l8 σ = some r → Run 3 1 1 kX1_byCounting (50, [some (vR 99), g1, g2, g3, some (vL l4), none, some (vL l6), none, some (vI l8), g9, g10], [], σ) (tIW r) := by
  intro n
  induction n with
  | zero =>
    intro _ _ _ _ _ _ _ _ _ _ h
    exact nomatch (show (none : Option (Int × xSt)) = some _ from h)
  | succ n ih =>
    intro l4 l6 l8 g1 g2 g3 g9 g10 σ r hf
    unfold f_Bits_byCounting_50 at hf
    refine run_seg (k := 2) (s' := (if l8 < 0 then (105, [some (vR 99), g1, g2, g3, some (vL l4), none, some (vL l6), none, some (vI l8), g9, g10], [], σ) else (55, [some (vR 99), g1, g2, g3, some (vL l4), none, some (vL l6), none, some (vI l8), g9, g10], [], σ))) rfl ?_
    refine run_ite hf (fun _ hf => ?_) (fun _ hf => ?_)
    · refine run_seg (k := 2) (s' := (109, [some (vR 99), g1, g2, g3, some (vL l4), none, some (vL l6), none, some (vI l8), g9, g10], [vI (σ 99 1)], σ)) rfl ?_
      exact run_ret hf rfl
    · refine run_seg (k := 4) (s' := (61, [some (vR 99), g1, g2, g3, some (vL l4), none, some (vL l6), none, some (vI l8), some (vL (xlshl 1 l8)), none], [], σ)) rfl ?_
      refine run_let (fun x7 => (61, [some (vR 99), g1, g2, g3, some (vL l4), none, some (vL l6), none, some (vI l8), some (vL x7), none], [], σ)) hf (fun x7 hf => ?_)
      refine run_seg (k := 6) (s' := (if xlc (xland l6 x7) 0 = 0 then (99, [some (vR 99), g1, g2, g3, some (vL l4), none, some (vL l6), none, some (vI l8), some (vL x7), none], [], σ) else (71, [some (vR 99), g1, g2, g3, some (vL l4), none, some (vL l6), none, some (vI l8), some (vL x7), none], [], σ))) rfl ?_
      refine run_ite hf (fun _ hf => ?_) (fun _ hf => ?_)
      · refine run_seg (k := 1) (s' := (102, [some (vR 99), g1, g2, g3, some (vL l4), none, some (vL l6), none, some (vI (w32 (l8 + (-1)))), some (vL x7), none], [], σ)) rfl ?_
        refine run_let (fun x8 => (102, [some (vR 99), g1, g2, g3, some (vL l4), none, some (vL l6), none, some (vI x8), some (vL x7), none], [], σ)) hf (fun x8 hf => ?_)
        refine run_seg (k := 1) (s' := (50, [some (vR 99), g1, g2, g3, some (vL l4), none, some (vL l6), none, some (vI x8), some (vL x7), none], [], σ)) rfl ?_
        exact ih hf
      · refine run_seg (k := 4) (s' := (if xlc l4 x7 < 0 then (79, [some (vR 99), g1, g2, g3, some (vL l4), none, some (vL l6), none, some (vI l8), some (vL x7), none], [], σ) else (92, [some (vR 99), g1, g2, g3, some (vL l4), none, some (vL l6), none, some (vI l8), some (vL x7), none], [], σ))) rfl ?_
        refine run_ite hf (fun _ hf => ?_) (fun _ hf => ?_)
        · refine run_seg (k := 3) (s' := (84, [some (vR 99), g1, g2, g3, some (vL l4), none, some (vL l6), none, some (vI l8), some (vL x7), none], [vI l8, vL l4, vR 99], σ)) rfl ?_
          refine run_callV (m := 25) (as := [vR 99, vL l4, vI l8]) (pc := 87) (ls := [some (vR 99), g1, g2, g3, some (vL l4), none, some (vL l6), none, some (vI l8), some (vL x7), none]) (st' := []) (σ := σ) hf rfl (fun _ h => (c_Bits_addLowest h).mono (by decide)) (fun σ9 hf => ?_)
          refine run_seg (k := 2) (s' := (91, [some (vR 99), g1, g2, g3, some (vL l4), none, some (vL l6), none, some (vI l8), some (vL x7), none], [vI (σ9 99 1)], σ9)) rfl ?_
          exact run_ret hf rfl
        · refine run_seg (k := 4) (s' := (99, [some (vR 99), g1, g2, g3, some (vL (w64 (l4 - x7))), none, some (vL l6), none, some (vI l8), some (vL x7), none], [], σ)) rfl ?_
          refine run_let (fun x10 => (99, [some (vR 99), g1, g2, g3, some (vL x10), none, some (vL l6), none, some (vI l8), some (vL x7), none], [], σ)) hf (fun x10 hf => ?_)
          refine run_seg (k := 1) (s' := (102, [some (vR 99), g1, g2, g3, some (vL x10), none, some (vL l6), none, some (vI (w32 (l8 + (-1)))), some (vL x7), none], [], σ)) rfl ?_
          refine run_let (fun x11 => (102, [some (vR 99), g1, g2, g3, some (vL x10), none, some (vL l6), none, some (vI x11), some (vL x7), none], [], σ)) hf (fun x11 hf => ?_)
          refine run_seg (k := 1) (s' := (50, [some (vR 99), g1, g2, g3, some (vL x10), none, some (vL l6), none, some (vI x11), some (vL x7), none], [], σ)) rfl ?_
          exact ih hf
theorem r_Bits_byCounting_10 : ∀ (n : Nat) {l2 : Int} {l3 : Int} {l4 : Int} {g5 : Option xV} {g6 : Option xV} {g7 : Option xV} {g8 : Option xV} {g9 : Option xV} {g10 : Option xV} {σ : xSt} {r : Int × xSt}, f_Bits_byCounting_10 n l2 l3 l4 σ = some r → Run 3 1 1 kX1_byCounting (10, [some (vR 99), some (vR 98), some (vI l2), some (vI l3), some (vI l4), g5, g6, g7, g8, g9, g10], [], σ) (tIW r) := by
  intro n
  induction n with
  | zero =>
    intro _ _ _ _ _ _ _ _ _ _ _ h
    exact nomatch (show (none : Option (Int × xSt)) = some _ from h)
  | succ n ih =>
    intro l2 l3 l4 g5 g6 g7 g8 g9 g10 σ r hf
    unfold f_Bits_byCounting_10 at hf
    refine run_seg (k := 3) (s' := (if l4 < l2 then (16, [some (vR 99), some (vR 98), some (vI l2), some (vI l3), some (vI l4), g5, g6, g7, g8, g9, g10], [], σ) else (31, [some (vR 99), some (vR 98), some (vI l2), some (vI l3), some (vI l4), g5, g6, g7, g8, g9, g10], [], σ))) rfl ?_
    refine run_ite hf (fun _ hf => ?_) (fun _ hf => ?_)
    · refine run_seg (k := 3) (s' := (20, [some (vR 99), some (vR 98), some (vI l2), some (vI l3), some (vI l4), g5, g6, g7, g8, g9, g10], [vI l4, vR 98, vI l3], σ)) rfl ?_
      refine run_callN (w := fun a => some (vI a)) (m := 17) (as := [vR 98, vI l4]) (pc := 23) (ls := [some (vR 99), some (vR 98), some (vI l2), some (vI l3), some (vI l4), g5, g6, g7, g8, g9, g10]) (st' := [vI l3]) (σ := σ) hf rfl (fun _ h => (c_Bits_throwAt_98 h).mono (by decide)) (fun r2 hf => ?_)
      refine run_seg (k := 2) (s' := (25, [some (vR 99), some (vR 98), some (vI l2), some (vI (w32 (l3 + r2))), some (vI l4), g5, g6, g7, g8, g9, g10], [], σ)) rfl ?_
      refine run_let (fun x3 => (25, [some (vR 99), some (vR 98), some (vI l2), some (vI x3), some (vI l4), g5, g6, g7, g8, g9, g10], [], σ)) hf (fun x3 hf => ?_)
      refine run_seg (k := 1) (s' := (28, [some (vR 99), some (vR 98), some (vI l2), some (vI x3), some (vI (w32 (l4 + 1))), g5, g6, g7, g8, g9, g10], [], σ)) rfl ?_
      refine run_let (fun x4 => (28, [some (vR 99), some (vR 98), some (vI l2), some (vI x3), some (vI x4), g5, g6, g7, g8, g9, g10], [], σ)) hf (fun x4 hf => ?_)
      refine run_seg (k := 1) (s' := (10, [some (vR 99), some (vR 98), some (vI l2), some (vI x3), some (vI x4), g5, g6, g7, g8, g9, g10], [], σ)) rfl ?_
      exact ih hf
    · refine run_seg (k := 3) (s' := (34, [some (vR 99), some (vR 98), some (vI l2), some (vI l3), some (vI l4), g5, g6, g7, g8, g9, g10], [vI l3, vI l2, vR 98], σ)) rfl ?_
      refine run_callN (w := fun a => some (vL a)) (m := 24) (as := [vR 98, vI l2, vI l3]) (pc := 37) (ls := [some (vR 99), some (vR 98), some (vI l2), some (vI l3), some (vI l4), g5, g6, g7, g8, g9, g10]) (st' := []) (σ := σ) hf rfl (fun _ h => (c_Bits_placeOf h).mono (by decide)) (fun r5 hf => ?_)
      refine run_seg (k := 3) (s' := (41, [some (vR 99), some (vR 98), some (vI l2), some (vI l3), some (vL r5), none, g6, g7, g8, g9, g10], [vI l3, vI l2], σ)) rfl ?_
      refine run_callN (w := fun a => some (vL a)) (m := 32) (as := [vI l2, vI l3]) (pc := 44) (ls := [some (vR 99), some (vR 98), some (vI l2), some (vI l3), some (vL r5), none, g6, g7, g8, g9, g10]) (st' := []) (σ := σ) hf rfl (fun _ h => (c_Fraction_choices h).mono (by decide)) (fun r6 hf => ?_)
      refine run_seg (k := 3) (s' := (50, [some (vR 99), some (vR 98), some (vI l2), some (vI l3), some (vL r5), none, some (vL r6), none, some (vI 16), g9, g10], [], σ)) rfl ?_
      exact r_Bits_byCounting_50 1000000 hf
theorem c_Bits_byCounting {p2 : Int} {σ : xSt} {r : Int × xSt} (hf : f_Bits_byCounting p2 σ = some r) : Call (3 + 1) 23 [vR 99, vR 98, vI p2] σ (tIW r).1 (tIW r).2 := by
  unfold f_Bits_byCounting at hf
  refine call_of (own := 1) (rk := 1) (cd := kX1_byCounting) (ls := [some (vR 99), some (vR 98), some (vI p2), none, none, none, none, none, none, none, none]) (rT := tIW) rfl rfl rfl rfl rfl ?_
  refine run_seg (k := 3) (s' := (5, [some (vR 99), some (vR 98), some (vI p2), none, none, none, none, none, none, none, none], [], upS σ 99 1 0)) rfl ?_
  refine run_let (fun σ1 => (5, [some (vR 99), some (vR 98), some (vI p2), none, none, none, none, none, none, none, none], [], σ1)) hf (fun σ1 hf => ?_)
  refine run_seg (k := 4) (s' := (10, [some (vR 99), some (vR 98), some (vI p2), some (vI 0), some (vI 0), none, none, none, none, none, none], [], σ1)) rfl ?_
  exact r_Bits_byCounting_10 1000000 hf
/-- BentPenny.counted()I -/
def f_X_counted (σ : xSt) : Option (Int × xSt) :=
  xbW (f_X_takeRow 1 16 σ) fun r1 σ2 =>
  if r1 = (-1) then (some ((-1), σ2))
  else (xbW (f_Bits_byCounting r1 σ2) fun r3 σ4 =>
  some (r3, σ4))
theorem c_X_counted {σ : xSt} {r : Int × xSt} (hf : f_X_counted σ = some r) : Call (4 + 1) 177 [vR 0] σ (tIW r).1 (tIW r).2 := by
  unfold f_X_counted at hf
  refine call_of (own := 11) (rk := 1) (cd := kX11_counted) (ls := [some (vR 0), none]) (rT := tIW) rfl rfl rfl rfl rfl ?_
  refine run_seg (k := 3) (s' := (4, [some (vR 0), none], [vI 16, vI 1, vR 0], σ)) rfl ?_
  refine run_callW (w := fun a => some (vI a)) (m := 153) (as := [vR 0, vI 1, vI 16]) (pc := 7) (ls := [some (vR 0), none]) (st' := []) (σ := σ) hf rfl (fun _ _ h => (c_X_takeRow h).mono (by decide)) (fun r1 σ2 hf => ?_)
  refine run_seg (k := 4) (s' := (if r1 = (-1) then (13, [some (vR 0), some (vI r1)], [], σ2) else (17, [some (vR 0), some (vI r1)], [], σ2))) rfl ?_
  refine run_ite hf (fun _ hf => ?_) (fun _ hf => ?_)
  · refine run_seg (k := 2) (s' := (29, [some (vR 0), some (vI r1)], [vI (-1)], σ2)) rfl ?_
    exact run_ret hf rfl
  · refine run_seg (k := 5) (s' := (26, [some (vR 0), some (vI r1)], [vI r1, vR 98, vR 99], σ2)) rfl ?_
    refine run_callW (w := fun a => some (vI a)) (m := 23) (as := [vR 99, vR 98, vI r1]) (pc := 29) (ls := [some (vR 0), some (vI r1)]) (st' := []) (σ := σ2) hf rfl (fun _ _ h => (c_Bits_byCounting h).mono (by decide)) (fun r3 σ4 hf => ?_)
    exact run_ret hf rfl
/-- BentPenny$Bits.at(I)I -/
def f_Bits_at (p1 : Int) (σ : xSt) : Option (Int) :=
  xbR (f_X_isWithin p1 (σ 99 1) σ) fun r1 =>
  if r1 = 0 then (some (-1))
  else (if p1 < 600 then (if 0 ≤ p1 ∧ p1 < 600 then (
  some (σ 100 p1.toNat)) else none)
  else (some (-1)))
theorem c_Bits_at {p1 : Int} {σ : xSt} {r : Int} (hf : f_Bits_at p1 σ = some r) : Call (1 + 1) 13 [vR 99, vI p1] σ ((tI σ) r).1 ((tI σ) r).2 := by
  unfold f_Bits_at at hf
  refine call_of (own := 1) (rk := 1) (cd := kX1_at) (ls := [some (vR 99), some (vI p1)]) (rT := (tI σ)) rfl rfl rfl rfl rfl ?_
  refine run_seg (k := 3) (s' := (5, [some (vR 99), some (vI p1)], [vI (σ 99 1), vI p1], σ)) rfl ?_
  refine run_callN (w := fun a => some (vI a)) (m := 207) (as := [vI p1, vI (σ 99 1)]) (pc := 8) (ls := [some (vR 99), some (vI p1)]) (st' := []) (σ := σ) hf rfl (fun _ h => (c_X_isWithin h).mono (by decide)) (fun r1 hf => ?_)
  refine run_seg (k := 1) (s' := (if r1 = 0 then (29, [some (vR 99), some (vI p1)], [], σ) else (11, [some (vR 99), some (vI p1)], [], σ))) rfl ?_
  refine run_ite hf (fun _ hf => ?_) (fun _ hf => ?_)
  · refine run_seg (k := 1) (s' := (30, [some (vR 99), some (vI p1)], [vI (-1)], σ)) rfl ?_
    exact run_ret hf rfl
  · refine run_seg (k := 5) (s' := (if p1 < 600 then (20, [some (vR 99), some (vI p1)], [], σ) else (29, [some (vR 99), some (vI p1)], [], σ))) rfl ?_
    refine run_ite hf (fun _ hf => ?_) (fun _ hf => ?_)
    · refine run_seg (k := 3) (s' := (25, [some (vR 99), some (vI p1)], [vI p1, vR 100], σ)) rfl ?_
      refine run_guard (s' := (26, [some (vR 99), some (vI p1)], [vI (σ 100 p1.toNat)], σ)) hf rfl (fun hf => ?_)
      refine run_seg (k := 1) (s' := (30, [some (vR 99), some (vI p1)], [vI (σ 100 p1.toNat)], σ)) rfl ?_
      exact run_ret hf rfl
    · refine run_seg (k := 1) (s' := (30, [some (vR 99), some (vI p1)], [vI (-1)], σ)) rfl ?_
      exact run_ret hf rfl
/-- BentPenny.bit(I)I -/
def f_X_bit (p1 : Int) (σ : xSt) : Option (Int) :=
  xbR (f_Bits_at p1 σ) fun r1 =>
  some r1
theorem c_X_bit {p1 : Int} {σ : xSt} {r : Int} (hf : f_X_bit p1 σ = some r) : Call (2 + 1) 178 [vR 0, vI p1] σ ((tI σ) r).1 ((tI σ) r).2 := by
  unfold f_X_bit at hf
  refine call_of (own := 11) (rk := 1) (cd := kX11_bit) (ls := [some (vR 0), some (vI p1)]) (rT := (tI σ)) rfl rfl rfl rfl rfl ?_
  refine run_seg (k := 3) (s' := (5, [some (vR 0), some (vI p1)], [vI p1, vR 99], σ)) rfl ?_
  refine run_callN (w := fun a => some (vI a)) (m := 13) (as := [vR 99, vI p1]) (pc := 8) (ls := [some (vR 0), some (vI p1)]) (st' := []) (σ := σ) hf rfl (fun _ h => (c_Bits_at h).mono (by decide)) (fun r1 hf => ?_)
  exact run_ret hf rfl
def f_Bits_countedSum_25 (k5 : (Int → Int → Int → Int → Int → xSt → Option (Int))) : Nat → Int → Int → Int → Int → Int → Int → Int → Int → xSt → Option (Int)
  | 0, _, _, _, _, _, _, _, _, _ => none
  | n + 1, l0, l1, l2, l3, l5, l6, l8, l10, σ =>
    if 16 < l10 then (xbR (f_Fraction_power l1 l5 σ) fun r2 =>
    xbR (f_Fraction_power l2 (w32 (l0 - l5)) σ) fun r3 =>
    xlet (w64 (l3 + (w64 ((w64 (l8 * r2)) * r3)))) fun x4 =>
    xlet (w32 (l5 + 1)) fun x5 =>
    k5 l0 l1 l2 x4 x5 σ)
    else (xlet (w64 (l8 + (w64 (l10 * (xland l6 (xlshl 1 l10)))))) fun x6 =>
    xlet (w32 (l10 + 1)) fun x7 =>
    f_Bits_countedSum_25 k5 n l0 l1 l2 l3 l5 l6 x6 x7 σ)
def f_Bits_countedSum_5 : Nat → Int → Int → Int → Int → Int → xSt → Option (Int)
  | 0, _, _, _, _, _, _ => none
  | n + 1, l0, l1, l2, l3, l5, σ =>
    if l0 < l5 then (some l3)
    else (xbR (f_Fraction_choices l0 l5 σ) fun r1 =>
    f_Bits_countedSum_25 (fun z0 z1 z2 z3 z4 sz => f_Bits_countedSum_5 n z0 z1 z2 z3 z4 sz) 1000000 l0 l1 l2 l3 l5 r1 0 0 σ)
/-- BentPenny$Bits.countedSum(III)J -/
def f_Bits_countedSum (p0 : Int) (p1 : Int) (p2 : Int) (σ : xSt) : Option (Int) :=
  f_Bits_countedSum_5 1000000 p0 p1 p2 0 0 σ
theorem r_Bits_countedSum_25 {k5 : (Int → Int → Int → Int → Int → xSt → Option (Int))} (hk5 : ∀ {l0 : Int} {l1 : Int} {l2 : Int} {l3 : Int} {l5 : Int} {g6 : Option xV} {g7 : Option xV} {g8 : Option xV} {g9 : Option xV} {g10 : Option xV} {σ : xSt} {r : Int}, k5 l0 l1 l2 l3 l5 σ = some r → Run 1 1 3 kX1_countedSum (5, [some (vI l0), some (vI l1), some (vI l2), some (vL l3), none, some (vI l5), g6, g7, g8, g9, g10], [], σ) ((tL σ) r)) : ∀ (n : Nat) {l0 : Int} {l1 : Int} {l2 : Int} {l3 : Int} {l5 : Int} {l6 : Int} {l8 : Int} {l10 : Int} {σ : xSt} {r : Int}, f_Bits_countedSum_25 k5 n l0 l1 l2 l3 l5 l6 l8 l10 σ = some r → Run 1 1 3 kX1_countedSum (25, [some (vI l0), some (vI l1), some (vI l2), some (vL l3), none, some (vI l5), some (vL l6), none, some (vL l8), none, some (vI l10)], [], σ) ((tL σ) r) := by
  intro n
  induction n with
  | zero =>
    intro _ _ _ _ _ _ _ _ _ _ h
    exact nomatch (show (none : Option (Int)) = some _ from h)
  | succ n ih =>
    intro l0 l1 l2 l3 l5 l6 l8 l10 σ r hf
    unfold f_Bits_countedSum_25 at hf
    refine run_seg (k := 3) (s' := (if 16 < l10 then (54, [some (vI l0), some (vI l1), some (vI l2), some (vL l3), none, some (vI l5), some (vL l6), none, some (vL l8), none, some (vI l10)], [], σ) else (32, [some (vI l0), some (vI l1), some (vI l2), some (vL l3), none, some (vI l5), some (vL l6), none, some (vL l8), none, some (vI l10)], [], σ))) rfl ?_
    refine run_ite hf (fun _ hf => ?_) (fun _ hf => ?_)
    · refine run_seg (k := 5) (s' := (61, [some (vI l0), some (vI l1), some (vI l2), some (vL l3), none, some (vI l5), some (vL l6), none, some (vL l8), none, some (vI l10)], [vI l5, vL l1, vL l8, vL l3], σ)) rfl ?_
      refine run_callN (w := fun a => some (vL a)) (m := 31) (as := [vL l1, vI l5]) (pc := 64) (ls := [some (vI l0), some (vI l1), some (vI l2), some (vL l3), none, some (vI l5), some (vL l6), none, some (vL l8), none, some (vI l10)]) (st' := [vL l8, vL l3]) (σ := σ) hf rfl (fun _ h => (c_Fraction_power h).mono (by decide)) (fun r2 hf => ?_)
      refine run_seg (k := 6) (s' := (71, [some (vI l0), some (vI l1), some (vI l2), some (vL l3), none, some (vI l5), some (vL l6), none, some (vL l8), none, some (vI l10)], [vI (w32 (l0 - l5)), vL l2, vL (w64 (l8 * r2)), vL l3], σ)) rfl ?_
      refine run_callN (w := fun a => some (vL a)) (m := 31) (as := [vL l2, vI (w32 (l0 - l5))]) (pc := 74) (ls := [some (vI l0), some (vI l1), some (vI l2), some (vL l3), none, some (vI l5), some (vL l6), none, some (vL l8), none, some (vI l10)]) (st' := [vL (w64 (l8 * r2)), vL l3]) (σ := σ) hf rfl (fun _ h => (c_Fraction_power h).mono (by decide)) (fun r3 hf => ?_)
      refine run_seg (k := 3) (s' := (77, [some (vI l0), some (vI l1), some (vI l2), some (vL (w64 (l3 + (w64 ((w64 (l8 * r2)) * r3))))), none, some (vI l5), some (vL l6), none, some (vL l8), none, some (vI l10)], [], σ)) rfl ?_
      refine run_let (fun x4 => (77, [some (vI l0), some (vI l1), some (vI l2), some (vL x4), none, some (vI l5), some (vL l6), none, some (vL l8), none, some (vI l10)], [], σ)) hf (fun x4 hf => ?_)
      refine run_seg (k := 1) (s' := (80, [some (vI l0), some (vI l1), some (vI l2), some (vL x4), none, some (vI (w32 (l5 + 1))), some (vL l6), none, some (vL l8), none, some (vI l10)], [], σ)) rfl ?_
      refine run_let (fun x5 => (80, [some (vI l0), some (vI l1), some (vI l2), some (vL x4), none, some (vI x5), some (vL l6), none, some (vL l8), none, some (vI l10)], [], σ)) hf (fun x5 hf => ?_)
      refine run_seg (k := 1) (s' := (5, [some (vI l0), some (vI l1), some (vI l2), some (vL x4), none, some (vI x5), some (vL l6), none, some (vL l8), none, some (vI l10)], [], σ)) rfl ?_
      exact hk5 hf
    · refine run_seg (k := 11) (s' := (48, [some (vI l0), some (vI l1), some (vI l2), some (vL l3), none, some (vI l5), some (vL l6), none, some (vL (w64 (l8 + (w64 (l10 * (xland l6 (xlshl 1 l10))))))), none, some (vI l10)], [], σ)) rfl ?_
      refine run_let (fun x6 => (48, [some (vI l0), some (vI l1), some (vI l2), some (vL l3), none, some (vI l5), some (vL l6), none, some (vL x6), none, some (vI l10)], [], σ)) hf (fun x6 hf => ?_)
      refine run_seg (k := 1) (s' := (51, [some (vI l0), some (vI l1), some (vI l2), some (vL l3), none, some (vI l5), some (vL l6), none, some (vL x6), none, some (vI (w32 (l10 + 1)))], [], σ)) rfl ?_
      refine run_let (fun x7 => (51, [some (vI l0), some (vI l1), some (vI l2), some (vL l3), none, some (vI l5), some (vL l6), none, some (vL x6), none, some (vI x7)], [], σ)) hf (fun x7 hf => ?_)
      refine run_seg (k := 1) (s' := (25, [some (vI l0), some (vI l1), some (vI l2), some (vL l3), none, some (vI l5), some (vL l6), none, some (vL x6), none, some (vI x7)], [], σ)) rfl ?_
      exact ih hf
theorem r_Bits_countedSum_5 : ∀ (n : Nat) {l0 : Int} {l1 : Int} {l2 : Int} {l3 : Int} {l5 : Int} {g6 : Option xV} {g7 : Option xV} {g8 : Option xV} {g9 : Option xV} {g10 : Option xV} {σ : xSt} {r : Int}, f_Bits_countedSum_5 n l0 l1 l2 l3 l5 σ = some r → Run 1 1 3 kX1_countedSum (5, [some (vI l0), some (vI l1), some (vI l2), some (vL l3), none, some (vI l5), g6, g7, g8, g9, g10], [], σ) ((tL σ) r) := by
  intro n
  induction n with
  | zero =>
    intro _ _ _ _ _ _ _ _ _ _ _ _ h
    exact nomatch (show (none : Option (Int)) = some _ from h)
  | succ n ih =>
    intro l0 l1 l2 l3 l5 g6 g7 g8 g9 g10 σ r hf
    unfold f_Bits_countedSum_5 at hf
    refine run_seg (k := 3) (s' := (if l0 < l5 then (83, [some (vI l0), some (vI l1), some (vI l2), some (vL l3), none, some (vI l5), g6, g7, g8, g9, g10], [], σ) else (11, [some (vI l0), some (vI l1), some (vI l2), some (vL l3), none, some (vI l5), g6, g7, g8, g9, g10], [], σ))) rfl ?_
    refine run_ite hf (fun _ hf => ?_) (fun _ hf => ?_)
    · refine run_seg (k := 1) (s' := (84, [some (vI l0), some (vI l1), some (vI l2), some (vL l3), none, some (vI l5), g6, g7, g8, g9, g10], [vL l3], σ)) rfl ?_
      exact run_ret hf rfl
    · refine run_seg (k := 2) (s' := (14, [some (vI l0), some (vI l1), some (vI l2), some (vL l3), none, some (vI l5), g6, g7, g8, g9, g10], [vI l5, vI l0], σ)) rfl ?_
      refine run_callN (w := fun a => some (vL a)) (m := 32) (as := [vI l0, vI l5]) (pc := 17) (ls := [some (vI l0), some (vI l1), some (vI l2), some (vL l3), none, some (vI l5), g6, g7, g8, g9, g10]) (st' := []) (σ := σ) hf rfl (fun _ h => (c_Fraction_choices h).mono (by decide)) (fun r1 hf => ?_)
      refine run_seg (k := 5) (s' := (25, [some (vI l0), some (vI l1), some (vI l2), some (vL l3), none, some (vI l5), some (vL r1), none, some (vL 0), none, some (vI 0)], [], σ)) rfl ?_
      exact r_Bits_countedSum_25 (fun h => ih h) 1000000 hf
theorem c_Bits_countedSum {p0 : Int} {p1 : Int} {p2 : Int} {σ : xSt} {r : Int} (hf : f_Bits_countedSum p0 p1 p2 σ = some r) : Call (1 + 1) 26 [vI p0, vI p1, vI p2] σ ((tL σ) r).1 ((tL σ) r).2 := by
  unfold f_Bits_countedSum at hf
  refine call_of (own := 1) (rk := 3) (cd := kX1_countedSum) (ls := [some (vI p0), some (vI p1), some (vI p2), none, none, none, none, none, none, none, none]) (rT := (tL σ)) rfl rfl rfl rfl rfl ?_
  refine run_seg (k := 4) (s' := (5, [some (vI p0), some (vI p1), some (vI p2), some (vL 0), none, some (vI 0), none, none, none, none, none], [], σ)) rfl ?_
  exact r_Bits_countedSum_5 1000000 hf
def f_X_countedMean_36 (l1 : Int) (l2 : Int) (l3 : Int) (l4 : Int) (s0 : Int) (σ : xSt) : Option (Option Int × xSt) :=
  if s0 = 0 then (some (none, σ))
  else (xbR (f_X_isWithin l4 2 σ) fun r1 =>
  if r1 = 0 then (some (none, σ))
  else (xbR (f_Bits_countedSum l1 l2 (w32 (l3 - l2)) σ) fun r2 =>
  xbR (f_Fraction_power l3 l1 σ) fun r3 =>
  xbW (f_X_told r2 r3 l4 σ) fun r4 σ5 =>
  some (some r4, σ5)))
def f_X_countedMean_35 (l1 : Int) (l2 : Int) (l3 : Int) (l4 : Int) (σ : xSt) : Option (Option Int × xSt) :=
  f_X_countedMean_36 l1 l2 l3 l4 0 σ
/-- BentPenny.countedMean(IIII)J -/
def f_X_countedMean (p1 : Int) (p2 : Int) (p3 : Int) (p4 : Int) (σ : xSt) : Option (Option Int × xSt) :=
  if p1 < 1 then (f_X_countedMean_35 p1 p2 p3 p4 σ)
  else (if 16 < p1 then (f_X_countedMean_35 p1 p2 p3 p4 σ)
  else (if p3 < 2 then (f_X_countedMean_35 p1 p2 p3 p4 σ)
  else (if 9 < p3 then (f_X_countedMean_35 p1 p2 p3 p4 σ)
  else (if p2 < 0 then (f_X_countedMean_35 p1 p2 p3 p4 σ)
  else (if p3 < p2 then (f_X_countedMean_35 p1 p2 p3 p4 σ)
  else (f_X_countedMean_36 p1 p2 p3 p4 1 σ))))))
theorem r_X_countedMean_36 {l1 : Int} {l2 : Int} {l3 : Int} {l4 : Int} {s0 : Int} {g5 : Option xV} {σ : xSt} {r : Option Int × xSt} (hf : f_X_countedMean_36 l1 l2 l3 l4 s0 σ = some r) : Run 3 11 3 kX11_countedMean (36, [some (vR 0), some (vI l1), some (vI l2), some (vI l3), some (vI l4), g5], [vI s0], σ) (tXL r) := by
  unfold f_X_countedMean_36 at hf
  refine run_seg (k := 3) (s' := (if s0 = 0 then (52, [some (vR 0), some (vI l1), some (vI l2), some (vI l3), some (vI l4), some (vI s0)], [], σ) else (43, [some (vR 0), some (vI l1), some (vI l2), some (vI l3), some (vI l4), some (vI s0)], [], σ))) rfl ?_
  refine run_ite hf (fun _ hf => ?_) (fun _ hf => ?_)
  · exact run_ret hf rfl
  · refine run_seg (k := 2) (s' := (46, [some (vR 0), some (vI l1), some (vI l2), some (vI l3), some (vI l4), some (vI s0)], [vI 2, vI l4], σ)) rfl ?_
    refine run_callN (w := fun a => some (vI a)) (m := 207) (as := [vI l4, vI 2]) (pc := 49) (ls := [some (vR 0), some (vI l1), some (vI l2), some (vI l3), some (vI l4), some (vI s0)]) (st' := []) (σ := σ) hf rfl (fun _ h => (c_X_isWithin h).mono (by decide)) (fun r1 hf => ?_)
    refine run_seg (k := 1) (s' := (if r1 = 0 then (52, [some (vR 0), some (vI l1), some (vI l2), some (vI l3), some (vI l4), some (vI s0)], [], σ) else (60, [some (vR 0), some (vI l1), some (vI l2), some (vI l3), some (vI l4), some (vI s0)], [], σ))) rfl ?_
    refine run_ite hf (fun _ hf => ?_) (fun _ hf => ?_)
    · exact run_ret hf rfl
    · refine run_seg (k := 6) (s' := (66, [some (vR 0), some (vI l1), some (vI l2), some (vI l3), some (vI l4), some (vI s0)], [vI (w32 (l3 - l2)), vI l2, vI l1, vR 0], σ)) rfl ?_
      refine run_callN (w := fun a => some (vL a)) (m := 26) (as := [vI l1, vI l2, vI (w32 (l3 - l2))]) (pc := 69) (ls := [some (vR 0), some (vI l1), some (vI l2), some (vI l3), some (vI l4), some (vI s0)]) (st' := [vR 0]) (σ := σ) hf rfl (fun _ h => (c_Bits_countedSum h).mono (by decide)) (fun r2 hf => ?_)
      refine run_seg (k := 3) (s' := (72, [some (vR 0), some (vI l1), some (vI l2), some (vI l3), some (vI l4), some (vI s0)], [vI l1, vL l3, vL r2, vR 0], σ)) rfl ?_
      refine run_callN (w := fun a => some (vL a)) (m := 31) (as := [vL l3, vI l1]) (pc := 75) (ls := [some (vR 0), some (vI l1), some (vI l2), some (vI l3), some (vI l4), some (vI s0)]) (st' := [vL r2, vR 0]) (σ := σ) hf rfl (fun _ h => (c_Fraction_power h).mono (by decide)) (fun r3 hf => ?_)
      refine run_seg (k := 1) (s' := (77, [some (vR 0), some (vI l1), some (vI l2), some (vI l3), some (vI l4), some (vI s0)], [vI l4, vL r3, vL r2, vR 0], σ)) rfl ?_
      refine run_callW (w := fun a => some (vL a)) (m := 167) (as := [vR 0, vL r2, vL r3, vI l4]) (pc := 80) (ls := [some (vR 0), some (vI l1), some (vI l2), some (vI l3), some (vI l4), some (vI s0)]) (st' := []) (σ := σ) hf rfl (fun _ _ h => (c_X_told h).mono (by decide)) (fun r4 σ5 hf => ?_)
      exact run_ret hf rfl
theorem r_X_countedMean_35 {l1 : Int} {l2 : Int} {l3 : Int} {l4 : Int} {g5 : Option xV} {σ : xSt} {r : Option Int × xSt} (hf : f_X_countedMean_35 l1 l2 l3 l4 σ = some r) : Run 3 11 3 kX11_countedMean (35, [some (vR 0), some (vI l1), some (vI l2), some (vI l3), some (vI l4), g5], [], σ) (tXL r) := by
  unfold f_X_countedMean_35 at hf
  refine run_seg (k := 1) (s' := (36, [some (vR 0), some (vI l1), some (vI l2), some (vI l3), some (vI l4), g5], [vI 0], σ)) rfl ?_
  exact r_X_countedMean_36 hf
theorem c_X_countedMean {p1 : Int} {p2 : Int} {p3 : Int} {p4 : Int} {σ : xSt} {r : Option Int × xSt} (hf : f_X_countedMean p1 p2 p3 p4 σ = some r) : Call (3 + 1) 179 [vR 0, vI p1, vI p2, vI p3, vI p4] σ (tXL r).1 (tXL r).2 := by
  unfold f_X_countedMean at hf
  refine call_of (own := 11) (rk := 3) (cd := kX11_countedMean) (ls := [some (vR 0), some (vI p1), some (vI p2), some (vI p3), some (vI p4), none]) (rT := tXL) rfl rfl rfl rfl rfl ?_
  refine run_seg (k := 3) (s' := (if p1 < 1 then (35, [some (vR 0), some (vI p1), some (vI p2), some (vI p3), some (vI p4), none], [], σ) else (5, [some (vR 0), some (vI p1), some (vI p2), some (vI p3), some (vI p4), none], [], σ))) rfl ?_
  refine run_ite hf (fun _ hf => ?_) (fun _ hf => ?_)
  · exact r_X_countedMean_35 hf
  · refine run_seg (k := 3) (s' := (if 16 < p1 then (35, [some (vR 0), some (vI p1), some (vI p2), some (vI p3), some (vI p4), none], [], σ) else (11, [some (vR 0), some (vI p1), some (vI p2), some (vI p3), some (vI p4), none], [], σ))) rfl ?_
    refine run_ite hf (fun _ hf => ?_) (fun _ hf => ?_)
    · exact r_X_countedMean_35 hf
    · refine run_seg (k := 3) (s' := (if p3 < 2 then (35, [some (vR 0), some (vI p1), some (vI p2), some (vI p3), some (vI p4), none], [], σ) else (16, [some (vR 0), some (vI p1), some (vI p2), some (vI p3), some (vI p4), none], [], σ))) rfl ?_
      refine run_ite hf (fun _ hf => ?_) (fun _ hf => ?_)
      · exact r_X_countedMean_35 hf
      · refine run_seg (k := 3) (s' := (if 9 < p3 then (35, [some (vR 0), some (vI p1), some (vI p2), some (vI p3), some (vI p4), none], [], σ) else (22, [some (vR 0), some (vI p1), some (vI p2), some (vI p3), some (vI p4), none], [], σ))) rfl ?_
        refine run_ite hf (fun _ hf => ?_) (fun _ hf => ?_)
        · exact r_X_countedMean_35 hf
        · refine run_seg (k := 2) (s' := (if p2 < 0 then (35, [some (vR 0), some (vI p1), some (vI p2), some (vI p3), some (vI p4), none], [], σ) else (26, [some (vR 0), some (vI p1), some (vI p2), some (vI p3), some (vI p4), none], [], σ))) rfl ?_
          refine run_ite hf (fun _ hf => ?_) (fun _ hf => ?_)
          · exact r_X_countedMean_35 hf
          · refine run_seg (k := 3) (s' := (if p3 < p2 then (35, [some (vR 0), some (vI p1), some (vI p2), some (vI p3), some (vI p4), none], [], σ) else (31, [some (vR 0), some (vI p1), some (vI p2), some (vI p3), some (vI p4), none], [], σ))) rfl ?_
            refine run_ite hf (fun _ hf => ?_) (fun _ hf => ?_)
            · exact r_X_countedMean_35 hf
            · refine run_seg (k := 2) (s' := (36, [some (vR 0), some (vI p1), some (vI p2), some (vI p3), some (vI p4), none], [vI 1], σ)) rfl ?_
              exact r_X_countedMean_36 hf
def f_Shares_areTold_10 : Nat → Int → Int → Int → xSt → Option (Int)
  | 0, _, _, _, _ => none
  | n + 1, l1, l2, l3, σ =>
    if l3 < σ 7 2 then (xbR (f_Table_shareBelow l3 σ) fun r2 =>
    if r2 = l1 then (xbR (f_Table_shareAbove l3 σ) fun r3 =>
    xlet (w32 (l2 + r3)) fun x4 =>
    xlet (w32 (l3 + 1)) fun x5 =>
    f_Shares_areTold_10 n l1 x4 x5 σ)
    else (some 0))
    else (if 0 < l1 then (if l2 = l1 then (some 1)
    else (some 0))
    else (some 0))
/-- BentPenny$Shares.areTold(LBentPenny$Table;)Z -/
def f_Shares_areTold (σ : xSt) : Option (Int) :=
  xbR (f_Table_shareBelow 0 σ) fun r1 =>
  f_Shares_areTold_10 1000000 r1 0 0 σ
theorem r_Shares_areTold_10 : ∀ (n : Nat) {l1 : Int} {l2 : Int} {l3 : Int} {σ : xSt} {r : Int}, f_Shares_areTold_10 n l1 l2 l3 σ = some r → Run 2 6 2 kX6_areTold (10, [some (vR 7), some (vI l1), some (vI l2), some (vI l3)], [], σ) ((tI σ) r) := by
  intro n
  induction n with
  | zero =>
    intro _ _ _ _ _ h
    exact nomatch (show (none : Option (Int)) = some _ from h)
  | succ n ih =>
    intro l1 l2 l3 σ r hf
    unfold f_Shares_areTold_10 at hf
    refine run_seg (k := 4) (s' := (if l3 < σ 7 2 then (18, [some (vR 7), some (vI l1), some (vI l2), some (vI l3)], [], σ) else (43, [some (vR 7), some (vI l1), some (vI l2), some (vI l3)], [], σ))) rfl ?_
    refine run_ite hf (fun _ hf => ?_) (fun _ hf => ?_)
    · refine run_seg (k := 2) (s' := (20, [some (vR 7), some (vI l1), some (vI l2), some (vI l3)], [vI l3, vR 7], σ)) rfl ?_
      refine run_callN (w := fun a => some (vI a)) (m := 88) (as := [vR 7, vI l3]) (pc := 23) (ls := [some (vR 7), some (vI l1), some (vI l2), some (vI l3)]) (st' := []) (σ := σ) hf rfl (fun _ h => (c_Table_shareBelow h).mono (by decide)) (fun r2 hf => ?_)
      refine run_seg (k := 2) (s' := (if r2 = l1 then (29, [some (vR 7), some (vI l1), some (vI l2), some (vI l3)], [], σ) else (27, [some (vR 7), some (vI l1), some (vI l2), some (vI l3)], [], σ))) rfl ?_
      refine run_ite hf (fun _ hf => ?_) (fun _ hf => ?_)
      · refine run_seg (k := 3) (s' := (32, [some (vR 7), some (vI l1), some (vI l2), some (vI l3)], [vI l3, vR 7, vI l2], σ)) rfl ?_
        refine run_callN (w := fun a => some (vI a)) (m := 87) (as := [vR 7, vI l3]) (pc := 35) (ls := [some (vR 7), some (vI l1), some (vI l2), some (vI l3)]) (st' := [vI l2]) (σ := σ) hf rfl (fun _ h => (c_Table_shareAbove h).mono (by decide)) (fun r3 hf => ?_)
        refine run_seg (k := 2) (s' := (37, [some (vR 7), some (vI l1), some (vI (w32 (l2 + r3))), some (vI l3)], [], σ)) rfl ?_
        refine run_let (fun x4 => (37, [some (vR 7), some (vI l1), some (vI x4), some (vI l3)], [], σ)) hf (fun x4 hf => ?_)
        refine run_seg (k := 1) (s' := (40, [some (vR 7), some (vI l1), some (vI x4), some (vI (w32 (l3 + 1)))], [], σ)) rfl ?_
        refine run_let (fun x5 => (40, [some (vR 7), some (vI l1), some (vI x4), some (vI x5)], [], σ)) hf (fun x5 hf => ?_)
        refine run_seg (k := 1) (s' := (10, [some (vR 7), some (vI l1), some (vI x4), some (vI x5)], [], σ)) rfl ?_
        exact ih hf
      · refine run_seg (k := 1) (s' := (28, [some (vR 7), some (vI l1), some (vI l2), some (vI l3)], [vI 0], σ)) rfl ?_
        exact run_ret hf rfl
    · refine run_seg (k := 2) (s' := (if 0 < l1 then (47, [some (vR 7), some (vI l1), some (vI l2), some (vI l3)], [], σ) else (56, [some (vR 7), some (vI l1), some (vI l2), some (vI l3)], [], σ))) rfl ?_
      refine run_ite hf (fun _ hf => ?_) (fun _ hf => ?_)
      · refine run_seg (k := 3) (s' := (if l2 = l1 then (52, [some (vR 7), some (vI l1), some (vI l2), some (vI l3)], [], σ) else (56, [some (vR 7), some (vI l1), some (vI l2), some (vI l3)], [], σ))) rfl ?_
        refine run_ite hf (fun _ hf => ?_) (fun _ hf => ?_)
        · refine run_seg (k := 2) (s' := (57, [some (vR 7), some (vI l1), some (vI l2), some (vI l3)], [vI 1], σ)) rfl ?_
          exact run_ret hf rfl
        · refine run_seg (k := 1) (s' := (57, [some (vR 7), some (vI l1), some (vI l2), some (vI l3)], [vI 0], σ)) rfl ?_
          exact run_ret hf rfl
      · refine run_seg (k := 1) (s' := (57, [some (vR 7), some (vI l1), some (vI l2), some (vI l3)], [vI 0], σ)) rfl ?_
        exact run_ret hf rfl
theorem c_Shares_areTold {σ : xSt} {r : Int} (hf : f_Shares_areTold σ = some r) : Call (2 + 1) 72 [vR 7] σ ((tI σ) r).1 ((tI σ) r).2 := by
  unfold f_Shares_areTold at hf
  refine call_of (own := 6) (rk := 2) (cd := kX6_areTold) (ls := [some (vR 7), none, none, none]) (rT := (tI σ)) rfl rfl rfl rfl rfl ?_
  refine run_seg (k := 2) (s' := (2, [some (vR 7), none, none, none], [vI 0, vR 7], σ)) rfl ?_
  refine run_callN (w := fun a => some (vI a)) (m := 88) (as := [vR 7, vI 0]) (pc := 5) (ls := [some (vR 7), none, none, none]) (st' := []) (σ := σ) hf rfl (fun _ h => (c_Table_shareBelow h).mono (by decide)) (fun r1 hf => ?_)
  refine run_seg (k := 5) (s' := (10, [some (vR 7), some (vI r1), some (vI 0), some (vI 0)], [], σ)) rfl ?_
  exact r_Shares_areTold_10 1000000 hf
def f_Shares_shareOut_98 (k71 : (Int → Int → Int → Int → xSt → Option (Int × xSt))) : Nat → Int → Int → Int → Int → Int → xSt → Option (Int × xSt)
  | 0, _, _, _, _, _, _ => none
  | n + 1, l3, l4, l5, l6, l7, σ =>
    if l7 < σ 7 2 then (if l7 < 6 then (if 0 ≤ l7 ∧ l7 < 6 then (
    if 0 ≤ l7 ∧ l7 < 6 then (
    xlet (upS σ 103 l7.toNat (w32 ((σ 103 l7.toNat) * 2))) fun σ7 =>
    if 0 ≤ l7 ∧ l7 < 6 then (
    if σ7 103 l7.toNat < l4 then (xlet (w32 (l7 + 1)) fun x8 =>
    f_Shares_shareOut_98 k71 n l3 l4 l5 l6 x8 σ7)
    else (if 0 ≤ l7 ∧ l7 < 6 then (
    if 0 ≤ l7 ∧ l7 < 6 then (
    xlet (upS σ7 103 l7.toNat (w32 ((σ7 103 l7.toNat) - l4))) fun σ9 =>
    xlet (w32 (l5 + (-1))) fun x10 =>
    if x10 < 0 then (xlet (upS σ9 102 1 (w32 (l6 + 1))) fun σ11 =>
    some (l7, σ11))
    else (xlet (w32 (l7 + 1)) fun x12 =>
    f_Shares_shareOut_98 k71 n l3 l4 x10 l6 x12 σ9)) else none) else none)) else none) else none) else none)
    else (xlet (w32 (l6 + 1)) fun x13 =>
    k71 l3 l4 l5 x13 σ))
    else (xlet (w32 (l6 + 1)) fun x14 =>
    k71 l3 l4 l5 x14 σ)
def f_Shares_shareOut_71 : Nat → Int → Int → Int → Int → xSt → Option (Int × xSt)
  | 0, _, _, _, _, _ => none
  | n + 1, l3, l4, l5, l6, σ =>
    if l6 < l3 then (if l6 < 600 then (if 0 ≤ l6 ∧ l6 < 600 then (
    xlet (w32 ((w32 (2 * l5)) + (σ 98 l6.toNat))) fun x6 =>
    f_Shares_shareOut_98 (fun z0 z1 z2 z3 sz => f_Shares_shareOut_71 n z0 z1 z2 z3 sz) 1000000 l3 l4 x6 l6 0 σ) else none)
    else (some ((-1), σ)))
    else (some ((-1), σ))
def f_Shares_shareOut_10 : Nat → Int → Int → Int → xSt → Option (Int × xSt)
  | 0, _, _, _, _ => none
  | n + 1, l3, l4, l5, σ =>
    if l5 < σ 7 2 then (if l5 < 6 then (xbR (f_Table_shareAbove l5 σ) fun r2 =>
    if 0 ≤ l5 ∧ l5 < 6 then (
    xlet (upS σ 103 l5.toNat r2) fun σ3 =>
    if 0 ≤ l5 ∧ l5 < 6 then (
    if σ3 103 l5.toNat = l4 then (xlet (upS σ3 102 1 0) fun σ4 =>
    some (l5, σ4))
    else (xlet (w32 (l5 + 1)) fun x5 =>
    f_Shares_shareOut_10 n l3 l4 x5 σ3)) else none) else none)
    else (f_Shares_shareOut_71 1000000 l3 l4 0 0 σ))
    else (f_Shares_shareOut_71 1000000 l3 l4 0 0 σ)
/-- BentPenny$Shares.shareOut(LBentPenny$Table;[BI)I -/
def f_Shares_shareOut (p3 : Int) (σ : xSt) : Option (Int × xSt) :=
  xbR (f_Table_shareBelow 0 σ) fun r1 =>
  f_Shares_shareOut_10 1000000 p3 r1 0 σ
theorem r_Shares_shareOut_98 {k71 : (Int → Int → Int → Int → xSt → Option (Int × xSt))} (hk71 : ∀ {l3 : Int} {l4 : Int} {l5 : Int} {l6 : Int} {g7 : Option xV} {σ : xSt} {r : Int × xSt}, k71 l3 l4 l5 l6 σ = some r → Run 2 6 1 kX6_shareOut (71, [some (vR 102), some (vR 7), some (vR 98), some (vI l3), some (vI l4), some (vI l5), some (vI l6), g7], [], σ) (tIW r)) : ∀ (n : Nat) {l3 : Int} {l4 : Int} {l5 : Int} {l6 : Int} {l7 : Int} {σ : xSt} {r : Int × xSt}, f_Shares_shareOut_98 k71 n l3 l4 l5 l6 l7 σ = some r → Run 2 6 1 kX6_shareOut (98, [some (vR 102), some (vR 7), some (vR 98), some (vI l3), some (vI l4), some (vI l5), some (vI l6), some (vI l7)], [], σ) (tIW r) := by
  intro n
  induction n with
  | zero =>
    intro _ _ _ _ _ _ _ h
    exact nomatch (show (none : Option (Int × xSt)) = some _ from h)
  | succ n ih =>
    intro l3 l4 l5 l6 l7 σ r hf
    unfold f_Shares_shareOut_98 at hf
    refine run_seg (k := 4) (s' := (if l7 < σ 7 2 then (107, [some (vR 102), some (vR 7), some (vR 98), some (vI l3), some (vI l4), some (vI l5), some (vI l6), some (vI l7)], [], σ) else (174, [some (vR 102), some (vR 7), some (vR 98), some (vI l3), some (vI l4), some (vI l5), some (vI l6), some (vI l7)], [], σ))) rfl ?_
    refine run_ite hf (fun _ hf => ?_) (fun _ hf => ?_)
    · refine run_seg (k := 3) (s' := (if l7 < 6 then (114, [some (vR 102), some (vR 7), some (vR 98), some (vI l3), some (vI l4), some (vI l5), some (vI l6), some (vI l7)], [], σ) else (174, [some (vR 102), some (vR 7), some (vR 98), some (vI l3), some (vI l4), some (vI l5), some (vI l6), some (vI l7)], [], σ))) rfl ?_
      refine run_ite hf (fun _ hf => ?_) (fun _ hf => ?_)
      · refine run_seg (k := 4) (s' := (121, [some (vR 102), some (vR 7), some (vR 98), some (vI l3), some (vI l4), some (vI l5), some (vI l6), some (vI l7)], [vI l7, vR 103, vI l7, vR 103], σ)) rfl ?_
        refine run_guard (s' := (122, [some (vR 102), some (vR 7), some (vR 98), some (vI l3), some (vI l4), some (vI l5), some (vI l6), some (vI l7)], [vI (σ 103 l7.toNat), vI l7, vR 103], σ)) hf rfl (fun hf => ?_)
        refine run_seg (k := 2) (s' := (124, [some (vR 102), some (vR 7), some (vR 98), some (vI l3), some (vI l4), some (vI l5), some (vI l6), some (vI l7)], [vI (w32 ((σ 103 l7.toNat) * 2)), vI l7, vR 103], σ)) rfl ?_
        refine run_guard (s' := (125, [some (vR 102), some (vR 7), some (vR 98), some (vI l3), some (vI l4), some (vI l5), some (vI l6), some (vI l7)], [], upS σ 103 l7.toNat (w32 ((σ 103 l7.toNat) * 2)))) hf rfl (fun hf => ?_)
        refine run_let (fun σ7 => (125, [some (vR 102), some (vR 7), some (vR 98), some (vI l3), some (vI l4), some (vI l5), some (vI l6), some (vI l7)], [], σ7)) hf (fun σ7 hf => ?_)
        refine run_seg (k := 3) (s' := (131, [some (vR 102), some (vR 7), some (vR 98), some (vI l3), some (vI l4), some (vI l5), some (vI l6), some (vI l7)], [vI l7, vR 103], σ7)) rfl ?_
        refine run_guard (s' := (132, [some (vR 102), some (vR 7), some (vR 98), some (vI l3), some (vI l4), some (vI l5), some (vI l6), some (vI l7)], [vI (σ7 103 l7.toNat)], σ7)) hf rfl (fun hf => ?_)
        refine run_seg (k := 2) (s' := (if σ7 103 l7.toNat < l4 then (168, [some (vR 102), some (vR 7), some (vR 98), some (vI l3), some (vI l4), some (vI l5), some (vI l6), some (vI l7)], [], σ7) else (137, [some (vR 102), some (vR 7), some (vR 98), some (vI l3), some (vI l4), some (vI l5), some (vI l6), some (vI l7)], [], σ7))) rfl ?_
        refine run_ite hf (fun _ hf => ?_) (fun _ hf => ?_)
        · refine run_seg (k := 1) (s' := (171, [some (vR 102), some (vR 7), some (vR 98), some (vI l3), some (vI l4), some (vI l5), some (vI l6), some (vI (w32 (l7 + 1)))], [], σ7)) rfl ?_
          refine run_let (fun x8 => (171, [some (vR 102), some (vR 7), some (vR 98), some (vI l3), some (vI l4), some (vI l5), some (vI l6), some (vI x8)], [], σ7)) hf (fun x8 hf => ?_)
          refine run_seg (k := 1) (s' := (98, [some (vR 102), some (vR 7), some (vR 98), some (vI l3), some (vI l4), some (vI l5), some (vI l6), some (vI x8)], [], σ7)) rfl ?_
          exact ih hf
        · refine run_seg (k := 4) (s' := (144, [some (vR 102), some (vR 7), some (vR 98), some (vI l3), some (vI l4), some (vI l5), some (vI l6), some (vI l7)], [vI l7, vR 103, vI l7, vR 103], σ7)) rfl ?_
          refine run_guard (s' := (145, [some (vR 102), some (vR 7), some (vR 98), some (vI l3), some (vI l4), some (vI l5), some (vI l6), some (vI l7)], [vI (σ7 103 l7.toNat), vI l7, vR 103], σ7)) hf rfl (fun hf => ?_)
          refine run_seg (k := 2) (s' := (148, [some (vR 102), some (vR 7), some (vR 98), some (vI l3), some (vI l4), some (vI l5), some (vI l6), some (vI l7)], [vI (w32 ((σ7 103 l7.toNat) - l4)), vI l7, vR 103], σ7)) rfl ?_
          refine run_guard (s' := (149, [some (vR 102), some (vR 7), some (vR 98), some (vI l3), some (vI l4), some (vI l5), some (vI l6), some (vI l7)], [], upS σ7 103 l7.toNat (w32 ((σ7 103 l7.toNat) - l4)))) hf rfl (fun hf => ?_)
          refine run_let (fun σ9 => (149, [some (vR 102), some (vR 7), some (vR 98), some (vI l3), some (vI l4), some (vI l5), some (vI l6), some (vI l7)], [], σ9)) hf (fun σ9 hf => ?_)
          refine run_seg (k := 1) (s' := (152, [some (vR 102), some (vR 7), some (vR 98), some (vI l3), some (vI l4), some (vI (w32 (l5 + (-1)))), some (vI l6), some (vI l7)], [], σ9)) rfl ?_
          refine run_let (fun x10 => (152, [some (vR 102), some (vR 7), some (vR 98), some (vI l3), some (vI l4), some (vI x10), some (vI l6), some (vI l7)], [], σ9)) hf (fun x10 hf => ?_)
          refine run_seg (k := 2) (s' := (if x10 < 0 then (157, [some (vR 102), some (vR 7), some (vR 98), some (vI l3), some (vI l4), some (vI x10), some (vI l6), some (vI l7)], [], σ9) else (168, [some (vR 102), some (vR 7), some (vR 98), some (vI l3), some (vI l4), some (vI x10), some (vI l6), some (vI l7)], [], σ9))) rfl ?_
          refine run_ite hf (fun _ hf => ?_) (fun _ hf => ?_)
          · refine run_seg (k := 5) (s' := (165, [some (vR 102), some (vR 7), some (vR 98), some (vI l3), some (vI l4), some (vI x10), some (vI l6), some (vI l7)], [], upS σ9 102 1 (w32 (l6 + 1)))) rfl ?_
            refine run_let (fun σ11 => (165, [some (vR 102), some (vR 7), some (vR 98), some (vI l3), some (vI l4), some (vI x10), some (vI l6), some (vI l7)], [], σ11)) hf (fun σ11 hf => ?_)
            refine run_seg (k := 1) (s' := (167, [some (vR 102), some (vR 7), some (vR 98), some (vI l3), some (vI l4), some (vI x10), some (vI l6), some (vI l7)], [vI l7], σ11)) rfl ?_
            exact run_ret hf rfl
          · refine run_seg (k := 1) (s' := (171, [some (vR 102), some (vR 7), some (vR 98), some (vI l3), some (vI l4), some (vI x10), some (vI l6), some (vI (w32 (l7 + 1)))], [], σ9)) rfl ?_
            refine run_let (fun x12 => (171, [some (vR 102), some (vR 7), some (vR 98), some (vI l3), some (vI l4), some (vI x10), some (vI l6), some (vI x12)], [], σ9)) hf (fun x12 hf => ?_)
            refine run_seg (k := 1) (s' := (98, [some (vR 102), some (vR 7), some (vR 98), some (vI l3), some (vI l4), some (vI x10), some (vI l6), some (vI x12)], [], σ9)) rfl ?_
            exact ih hf
      · refine run_seg (k := 1) (s' := (177, [some (vR 102), some (vR 7), some (vR 98), some (vI l3), some (vI l4), some (vI l5), some (vI (w32 (l6 + 1))), some (vI l7)], [], σ)) rfl ?_
        refine run_let (fun x13 => (177, [some (vR 102), some (vR 7), some (vR 98), some (vI l3), some (vI l4), some (vI l5), some (vI x13), some (vI l7)], [], σ)) hf (fun x13 hf => ?_)
        refine run_seg (k := 1) (s' := (71, [some (vR 102), some (vR 7), some (vR 98), some (vI l3), some (vI l4), some (vI l5), some (vI x13), some (vI l7)], [], σ)) rfl ?_
        exact hk71 hf
    · refine run_seg (k := 1) (s' := (177, [some (vR 102), some (vR 7), some (vR 98), some (vI l3), some (vI l4), some (vI l5), some (vI (w32 (l6 + 1))), some (vI l7)], [], σ)) rfl ?_
      refine run_let (fun x14 => (177, [some (vR 102), some (vR 7), some (vR 98), some (vI l3), some (vI l4), some (vI l5), some (vI x14), some (vI l7)], [], σ)) hf (fun x14 hf => ?_)
      refine run_seg (k := 1) (s' := (71, [some (vR 102), some (vR 7), some (vR 98), some (vI l3), some (vI l4), some (vI l5), some (vI x14), some (vI l7)], [], σ)) rfl ?_
      exact hk71 hf
theorem r_Shares_shareOut_71 : ∀ (n : Nat) {l3 : Int} {l4 : Int} {l5 : Int} {l6 : Int} {g7 : Option xV} {σ : xSt} {r : Int × xSt}, f_Shares_shareOut_71 n l3 l4 l5 l6 σ = some r → Run 2 6 1 kX6_shareOut (71, [some (vR 102), some (vR 7), some (vR 98), some (vI l3), some (vI l4), some (vI l5), some (vI l6), g7], [], σ) (tIW r) := by
  intro n
  induction n with
  | zero =>
    intro _ _ _ _ _ _ _ h
    exact nomatch (show (none : Option (Int × xSt)) = some _ from h)
  | succ n ih =>
    intro l3 l4 l5 l6 g7 σ r hf
    unfold f_Shares_shareOut_71 at hf
    refine run_seg (k := 3) (s' := (if l6 < l3 then (77, [some (vR 102), some (vR 7), some (vR 98), some (vI l3), some (vI l4), some (vI l5), some (vI l6), g7], [], σ) else (180, [some (vR 102), some (vR 7), some (vR 98), some (vI l3), some (vI l4), some (vI l5), some (vI l6), g7], [], σ))) rfl ?_
    refine run_ite hf (fun _ hf => ?_) (fun _ hf => ?_)
    · refine run_seg (k := 4) (s' := (if l6 < 600 then (84, [some (vR 102), some (vR 7), some (vR 98), some (vI l3), some (vI l4), some (vI l5), some (vI l6), g7], [], σ) else (180, [some (vR 102), some (vR 7), some (vR 98), some (vI l3), some (vI l4), some (vI l5), some (vI l6), g7], [], σ))) rfl ?_
      refine run_ite hf (fun _ hf => ?_) (fun _ hf => ?_)
      · refine run_seg (k := 5) (s' := (91, [some (vR 102), some (vR 7), some (vR 98), some (vI l3), some (vI l4), some (vI l5), some (vI l6), g7], [vI l6, vR 98, vI (w32 (2 * l5))], σ)) rfl ?_
        refine run_guard (s' := (92, [some (vR 102), some (vR 7), some (vR 98), some (vI l3), some (vI l4), some (vI l5), some (vI l6), g7], [vI (σ 98 l6.toNat), vI (w32 (2 * l5))], σ)) hf rfl (fun hf => ?_)
        refine run_seg (k := 2) (s' := (95, [some (vR 102), some (vR 7), some (vR 98), some (vI l3), some (vI l4), some (vI (w32 ((w32 (2 * l5)) + (σ 98 l6.toNat)))), some (vI l6), g7], [], σ)) rfl ?_
        refine run_let (fun x6 => (95, [some (vR 102), some (vR 7), some (vR 98), some (vI l3), some (vI l4), some (vI x6), some (vI l6), g7], [], σ)) hf (fun x6 hf => ?_)
        refine run_seg (k := 2) (s' := (98, [some (vR 102), some (vR 7), some (vR 98), some (vI l3), some (vI l4), some (vI x6), some (vI l6), some (vI 0)], [], σ)) rfl ?_
        exact r_Shares_shareOut_98 (fun h => ih h) 1000000 hf
      · refine run_seg (k := 1) (s' := (181, [some (vR 102), some (vR 7), some (vR 98), some (vI l3), some (vI l4), some (vI l5), some (vI l6), g7], [vI (-1)], σ)) rfl ?_
        exact run_ret hf rfl
    · refine run_seg (k := 1) (s' := (181, [some (vR 102), some (vR 7), some (vR 98), some (vI l3), some (vI l4), some (vI l5), some (vI l6), g7], [vI (-1)], σ)) rfl ?_
      exact run_ret hf rfl
theorem r_Shares_shareOut_10 : ∀ (n : Nat) {l3 : Int} {l4 : Int} {l5 : Int} {g6 : Option xV} {g7 : Option xV} {σ : xSt} {r : Int × xSt}, f_Shares_shareOut_10 n l3 l4 l5 σ = some r → Run 2 6 1 kX6_shareOut (10, [some (vR 102), some (vR 7), some (vR 98), some (vI l3), some (vI l4), some (vI l5), g6, g7], [], σ) (tIW r) := by
  intro n
  induction n with
  | zero =>
    intro _ _ _ _ _ _ _ h
    exact nomatch (show (none : Option (Int × xSt)) = some _ from h)
  | succ n ih =>
    intro l3 l4 l5 g6 g7 σ r hf
    unfold f_Shares_shareOut_10 at hf
    refine run_seg (k := 4) (s' := (if l5 < σ 7 2 then (19, [some (vR 102), some (vR 7), some (vR 98), some (vI l3), some (vI l4), some (vI l5), g6, g7], [], σ) else (65, [some (vR 102), some (vR 7), some (vR 98), some (vI l3), some (vI l4), some (vI l5), g6, g7], [], σ))) rfl ?_
    refine run_ite hf (fun _ hf => ?_) (fun _ hf => ?_)
    · refine run_seg (k := 3) (s' := (if l5 < 6 then (26, [some (vR 102), some (vR 7), some (vR 98), some (vI l3), some (vI l4), some (vI l5), g6, g7], [], σ) else (65, [some (vR 102), some (vR 7), some (vR 98), some (vI l3), some (vI l4), some (vI l5), g6, g7], [], σ))) rfl ?_
      refine run_ite hf (fun _ hf => ?_) (fun _ hf => ?_)
      · refine run_seg (k := 5) (s' := (35, [some (vR 102), some (vR 7), some (vR 98), some (vI l3), some (vI l4), some (vI l5), g6, g7], [vI l5, vR 7, vI l5, vR 103], σ)) rfl ?_
        refine run_callN (w := fun a => some (vI a)) (m := 87) (as := [vR 7, vI l5]) (pc := 38) (ls := [some (vR 102), some (vR 7), some (vR 98), some (vI l3), some (vI l4), some (vI l5), g6, g7]) (st' := [vI l5, vR 103]) (σ := σ) hf rfl (fun _ h => (c_Table_shareAbove h).mono (by decide)) (fun r2 hf => ?_)
        refine run_guard (s' := (39, [some (vR 102), some (vR 7), some (vR 98), some (vI l3), some (vI l4), some (vI l5), g6, g7], [], upS σ 103 l5.toNat r2)) hf rfl (fun hf => ?_)
        refine run_let (fun σ3 => (39, [some (vR 102), some (vR 7), some (vR 98), some (vI l3), some (vI l4), some (vI l5), g6, g7], [], σ3)) hf (fun σ3 hf => ?_)
        refine run_seg (k := 3) (s' := (45, [some (vR 102), some (vR 7), some (vR 98), some (vI l3), some (vI l4), some (vI l5), g6, g7], [vI l5, vR 103], σ3)) rfl ?_
        refine run_guard (s' := (46, [some (vR 102), some (vR 7), some (vR 98), some (vI l3), some (vI l4), some (vI l5), g6, g7], [vI (σ3 103 l5.toNat)], σ3)) hf rfl (fun hf => ?_)
        refine run_seg (k := 2) (s' := (if σ3 103 l5.toNat = l4 then (51, [some (vR 102), some (vR 7), some (vR 98), some (vI l3), some (vI l4), some (vI l5), g6, g7], [], σ3) else (59, [some (vR 102), some (vR 7), some (vR 98), some (vI l3), some (vI l4), some (vI l5), g6, g7], [], σ3))) rfl ?_
        refine run_ite hf (fun _ hf => ?_) (fun _ hf => ?_)
        · refine run_seg (k := 3) (s' := (56, [some (vR 102), some (vR 7), some (vR 98), some (vI l3), some (vI l4), some (vI l5), g6, g7], [], upS σ3 102 1 0)) rfl ?_
          refine run_let (fun σ4 => (56, [some (vR 102), some (vR 7), some (vR 98), some (vI l3), some (vI l4), some (vI l5), g6, g7], [], σ4)) hf (fun σ4 hf => ?_)
          refine run_seg (k := 1) (s' := (58, [some (vR 102), some (vR 7), some (vR 98), some (vI l3), some (vI l4), some (vI l5), g6, g7], [vI l5], σ4)) rfl ?_
          exact run_ret hf rfl
        · refine run_seg (k := 1) (s' := (62, [some (vR 102), some (vR 7), some (vR 98), some (vI l3), some (vI l4), some (vI (w32 (l5 + 1))), g6, g7], [], σ3)) rfl ?_
          refine run_let (fun x5 => (62, [some (vR 102), some (vR 7), some (vR 98), some (vI l3), some (vI l4), some (vI x5), g6, g7], [], σ3)) hf (fun x5 hf => ?_)
          refine run_seg (k := 1) (s' := (10, [some (vR 102), some (vR 7), some (vR 98), some (vI l3), some (vI l4), some (vI x5), g6, g7], [], σ3)) rfl ?_
          exact ih hf
      · refine run_seg (k := 4) (s' := (71, [some (vR 102), some (vR 7), some (vR 98), some (vI l3), some (vI l4), some (vI 0), some (vI 0), g7], [], σ)) rfl ?_
        exact r_Shares_shareOut_71 1000000 hf
    · refine run_seg (k := 4) (s' := (71, [some (vR 102), some (vR 7), some (vR 98), some (vI l3), some (vI l4), some (vI 0), some (vI 0), g7], [], σ)) rfl ?_
      exact r_Shares_shareOut_71 1000000 hf
theorem c_Shares_shareOut {p3 : Int} {σ : xSt} {r : Int × xSt} (hf : f_Shares_shareOut p3 σ = some r) : Call (2 + 1) 73 [vR 102, vR 7, vR 98, vI p3] σ (tIW r).1 (tIW r).2 := by
  unfold f_Shares_shareOut at hf
  refine call_of (own := 6) (rk := 1) (cd := kX6_shareOut) (ls := [some (vR 102), some (vR 7), some (vR 98), some (vI p3), none, none, none, none]) (rT := tIW) rfl rfl rfl rfl rfl ?_
  refine run_seg (k := 2) (s' := (2, [some (vR 102), some (vR 7), some (vR 98), some (vI p3), none, none, none, none], [vI 0, vR 7], σ)) rfl ?_
  refine run_callN (w := fun a => some (vI a)) (m := 88) (as := [vR 7, vI 0]) (pc := 5) (ls := [some (vR 102), some (vR 7), some (vR 98), some (vI p3), none, none, none, none]) (st' := []) (σ := σ) hf rfl (fun _ h => (c_Table_shareBelow h).mono (by decide)) (fun r1 hf => ?_)
  refine run_seg (k := 3) (s' := (10, [some (vR 102), some (vR 7), some (vR 98), some (vI p3), some (vI r1), some (vI 0), none, none], [], σ)) rfl ?_
  exact r_Shares_shareOut_10 1000000 hf
/-- BentPenny.shared()I -/
def f_X_shared (σ : xSt) : Option (Int × xSt) :=
  xbW (f_X_takeRow 0 600 σ) fun r1 σ2 =>
  if r1 = (-1) then (some ((-2), σ2))
  else (xbR (f_Shares_areTold σ2) fun r3 =>
  if r3 = 0 then (some ((-2), σ2))
  else (xbW (f_Shares_shareOut r1 σ2) fun r4 σ5 =>
  some (r4, σ5)))
theorem c_X_shared {σ : xSt} {r : Int × xSt} (hf : f_X_shared σ = some r) : Call (3 + 1) 180 [vR 0] σ (tIW r).1 (tIW r).2 := by
  unfold f_X_shared at hf
  refine call_of (own := 11) (rk := 1) (cd := kX11_shared) (ls := [some (vR 0), none]) (rT := tIW) rfl rfl rfl rfl rfl ?_
  refine run_seg (k := 3) (s' := (5, [some (vR 0), none], [vI 600, vI 0, vR 0], σ)) rfl ?_
  refine run_callW (w := fun a => some (vI a)) (m := 153) (as := [vR 0, vI 0, vI 600]) (pc := 8) (ls := [some (vR 0), none]) (st' := []) (σ := σ) hf rfl (fun _ _ h => (c_X_takeRow h).mono (by decide)) (fun r1 σ2 hf => ?_)
  refine run_seg (k := 4) (s' := (if r1 = (-1) then (27, [some (vR 0), some (vI r1)], [], σ2) else (14, [some (vR 0), some (vI r1)], [], σ2))) rfl ?_
  refine run_ite hf (fun _ hf => ?_) (fun _ hf => ?_)
  · refine run_seg (k := 1) (s' := (29, [some (vR 0), some (vI r1)], [vI (-2)], σ2)) rfl ?_
    exact run_ret hf rfl
  · refine run_seg (k := 3) (s' := (21, [some (vR 0), some (vI r1)], [vR 7], σ2)) rfl ?_
    refine run_callN (w := fun a => some (vI a)) (m := 72) (as := [vR 7]) (pc := 24) (ls := [some (vR 0), some (vI r1)]) (st' := []) (σ := σ2) hf rfl (fun _ h => (c_Shares_areTold h).mono (by decide)) (fun r3 hf => ?_)
    refine run_seg (k := 1) (s' := (if r3 = 0 then (27, [some (vR 0), some (vI r1)], [], σ2) else (30, [some (vR 0), some (vI r1)], [], σ2))) rfl ?_
    refine run_ite hf (fun _ hf => ?_) (fun _ hf => ?_)
    · refine run_seg (k := 1) (s' := (29, [some (vR 0), some (vI r1)], [vI (-2)], σ2)) rfl ?_
      exact run_ret hf rfl
    · refine run_seg (k := 8) (s' := (46, [some (vR 0), some (vI r1)], [vI r1, vR 98, vR 7, vR 102], σ2)) rfl ?_
      refine run_callW (w := fun a => some (vI a)) (m := 73) (as := [vR 102, vR 7, vR 98, vI r1]) (pc := 49) (ls := [some (vR 0), some (vI r1)]) (st' := []) (σ := σ2) hf rfl (fun _ _ h => (c_Shares_shareOut h).mono (by decide)) (fun r4 σ5 hf => ?_)
      exact run_ret hf rfl
/-- BentPenny.took()I -/
def f_X_took (σ : xSt) : Option (Int) :=
  some (σ 102 1)
theorem c_X_took {σ : xSt} {r : Int} (hf : f_X_took σ = some r) : Call (0 + 1) 181 [vR 0] σ ((tI σ) r).1 ((tI σ) r).2 := by
  unfold f_X_took at hf
  refine call_of (own := 11) (rk := 1) (cd := kX11_took) (ls := [some (vR 0)]) (rT := (tI σ)) rfl rfl rfl rfl rfl ?_
  refine run_seg (k := 3) (s' := (7, [some (vR 0)], [vI (σ 102 1)], σ)) rfl ?_
  exact run_ret hf rfl
def f_Shares_periodOfTwo_13 : Nat → Int → Int → Int → xSt → Option (Int)
  | 0, _, _, _, _ => none
  | n + 1, l0, l1, l2, σ =>
    if l2 = 1 then (some l1)
    else (if l1 < 20 then (if l0 = 0 then none else
    xlet (xrem (w32 (l2 * 2)) l0) fun x2 =>
    xlet (w32 (l1 + 1)) fun x3 =>
    f_Shares_periodOfTwo_13 n l0 x3 x2 σ)
    else (some l1))
/-- BentPenny$Shares.periodOfTwo(I)I -/
def f_Shares_periodOfTwo (p0 : Int) (σ : xSt) : Option (Int) :=
  if 1 < p0 then (if p0 = 0 then none else
  xlet (xrem 2 p0) fun x1 =>
  f_Shares_periodOfTwo_13 1000000 p0 1 x1 σ)
  else (some 1)
theorem r_Shares_periodOfTwo_13 : ∀ (n : Nat) {l0 : Int} {l1 : Int} {l2 : Int} {σ : xSt} {r : Int}, f_Shares_periodOfTwo_13 n l0 l1 l2 σ = some r → Run 0 6 1 kX6_periodOfTwo (13, [some (vI l0), some (vI l1), some (vI l2)], [], σ) ((tI σ) r) := by
  intro n
  induction n with
  | zero =>
    intro _ _ _ _ _ h
    exact nomatch (show (none : Option (Int)) = some _ from h)
  | succ n ih =>
    intro l0 l1 l2 σ r hf
    unfold f_Shares_periodOfTwo_13 at hf
    refine run_seg (k := 3) (s' := (if l2 = 1 then (36, [some (vI l0), some (vI l1), some (vI l2)], [], σ) else (18, [some (vI l0), some (vI l1), some (vI l2)], [], σ))) rfl ?_
    refine run_ite hf (fun _ hf => ?_) (fun _ hf => ?_)
    · refine run_seg (k := 1) (s' := (37, [some (vI l0), some (vI l1), some (vI l2)], [vI l1], σ)) rfl ?_
      exact run_ret hf rfl
    · refine run_seg (k := 3) (s' := (if l1 < 20 then (24, [some (vI l0), some (vI l1), some (vI l2)], [], σ) else (36, [some (vI l0), some (vI l1), some (vI l2)], [], σ))) rfl ?_
      refine run_ite hf (fun _ hf => ?_) (fun _ hf => ?_)
      · refine run_seg (k := 4) (s' := (28, [some (vI l0), some (vI l1), some (vI l2)], [vI l0, vI (w32 (l2 * 2))], σ)) rfl ?_
        refine run_gdiv (s' := (29, [some (vI l0), some (vI l1), some (vI l2)], [vI (xrem (w32 (l2 * 2)) l0)], σ)) hf rfl (fun hf => ?_)
        refine run_seg (k := 1) (s' := (30, [some (vI l0), some (vI l1), some (vI (xrem (w32 (l2 * 2)) l0))], [], σ)) rfl ?_
        refine run_let (fun x2 => (30, [some (vI l0), some (vI l1), some (vI x2)], [], σ)) hf (fun x2 hf => ?_)
        refine run_seg (k := 1) (s' := (33, [some (vI l0), some (vI (w32 (l1 + 1))), some (vI x2)], [], σ)) rfl ?_
        refine run_let (fun x3 => (33, [some (vI l0), some (vI x3), some (vI x2)], [], σ)) hf (fun x3 hf => ?_)
        refine run_seg (k := 1) (s' := (13, [some (vI l0), some (vI x3), some (vI x2)], [], σ)) rfl ?_
        exact ih hf
      · refine run_seg (k := 1) (s' := (37, [some (vI l0), some (vI l1), some (vI l2)], [vI l1], σ)) rfl ?_
        exact run_ret hf rfl
theorem c_Shares_periodOfTwo {p0 : Int} {σ : xSt} {r : Int} (hf : f_Shares_periodOfTwo p0 σ = some r) : Call (0 + 1) 75 [vI p0] σ ((tI σ) r).1 ((tI σ) r).2 := by
  unfold f_Shares_periodOfTwo at hf
  refine call_of (own := 6) (rk := 1) (cd := kX6_periodOfTwo) (ls := [some (vI p0), none, none]) (rT := (tI σ)) rfl rfl rfl rfl rfl ?_
  refine run_seg (k := 3) (s' := (if 1 < p0 then (7, [some (vI p0), none, none], [], σ) else (5, [some (vI p0), none, none], [], σ))) rfl ?_
  refine run_ite hf (fun _ hf => ?_) (fun _ hf => ?_)
  · refine run_seg (k := 4) (s' := (11, [some (vI p0), some (vI 1), none], [vI p0, vI 2], σ)) rfl ?_
    refine run_gdiv (s' := (12, [some (vI p0), some (vI 1), none], [vI (xrem 2 p0)], σ)) hf rfl (fun hf => ?_)
    refine run_seg (k := 1) (s' := (13, [some (vI p0), some (vI 1), some (vI (xrem 2 p0))], [], σ)) rfl ?_
    refine run_let (fun x1 => (13, [some (vI p0), some (vI 1), some (vI x1)], [], σ)) hf (fun x1 hf => ?_)
    exact r_Shares_periodOfTwo_13 1000000 hf
  · refine run_seg (k := 1) (s' := (6, [some (vI p0), none, none], [vI 1], σ)) rfl ?_
    exact run_ret hf rfl
/-- BentPenny$Shares.restOf(LBentPenny$Table;II)J -/
def f_Shares_restOf (p1 : Int) (p2 : Int) (σ : xSt) : Option (Int) :=
  xbR (f_Table_shareBelow p2 σ) fun r1 =>
  if r1 < 1 then (some 0)
  else (xbR (f_Table_shareAbove p2 σ) fun r2 =>
  if r1 = 0 then none else
  some (xlrem (xlshl r2 p1) r1))
theorem c_Shares_restOf {p1 : Int} {p2 : Int} {σ : xSt} {r : Int} (hf : f_Shares_restOf p1 p2 σ = some r) : Call (2 + 1) 77 [vR 7, vI p1, vI p2] σ ((tL σ) r).1 ((tL σ) r).2 := by
  unfold f_Shares_restOf at hf
  refine call_of (own := 6) (rk := 3) (cd := kX6_restOf) (ls := [some (vR 7), some (vI p1), some (vI p2), none]) (rT := (tL σ)) rfl rfl rfl rfl rfl ?_
  refine run_seg (k := 2) (s' := (2, [some (vR 7), some (vI p1), some (vI p2), none], [vI p2, vR 7], σ)) rfl ?_
  refine run_callN (w := fun a => some (vI a)) (m := 88) (as := [vR 7, vI p2]) (pc := 5) (ls := [some (vR 7), some (vI p1), some (vI p2), none]) (st' := []) (σ := σ) hf rfl (fun _ h => (c_Table_shareBelow h).mono (by decide)) (fun r1 hf => ?_)
  refine run_seg (k := 4) (s' := (if r1 < 1 then (11, [some (vR 7), some (vI p1), some (vI p2), some (vI r1)], [], σ) else (15, [some (vR 7), some (vI p1), some (vI p2), some (vI r1)], [], σ))) rfl ?_
  refine run_ite hf (fun _ hf => ?_) (fun _ hf => ?_)
  · refine run_seg (k := 2) (s' := (26, [some (vR 7), some (vI p1), some (vI p2), some (vI r1)], [vL 0], σ)) rfl ?_
    exact run_ret hf rfl
  · refine run_seg (k := 2) (s' := (17, [some (vR 7), some (vI p1), some (vI p2), some (vI r1)], [vI p2, vR 7], σ)) rfl ?_
    refine run_callN (w := fun a => some (vI a)) (m := 87) (as := [vR 7, vI p2]) (pc := 20) (ls := [some (vR 7), some (vI p1), some (vI p2), some (vI r1)]) (st' := []) (σ := σ) hf rfl (fun _ h => (c_Table_shareAbove h).mono (by decide)) (fun r2 hf => ?_)
    refine run_seg (k := 5) (s' := (25, [some (vR 7), some (vI p1), some (vI p2), some (vI r1)], [vL r1, vL (xlshl r2 p1)], σ)) rfl ?_
    refine run_gdiv (s' := (26, [some (vR 7), some (vI p1), some (vI p2), some (vI r1)], [vL (xlrem (xlshl r2 p1) r1)], σ)) hf rfl (fun hf => ?_)
    exact run_ret hf rfl
def f_Shares_openRows_18 : Nat → Int → Int → Int → Int → xSt → Option (Int)
  | 0, _, _, _, _, _ => none
  | n + 1, l1, l2, l3, l5, σ =>
    if l5 < σ 7 2 then (xbR (f_Shares_restOf l1 l5 σ) fun r2 =>
    xlet (w64 (l3 + r2)) fun x3 =>
    xlet (w32 (l5 + 1)) fun x4 =>
    f_Shares_openRows_18 n l1 l2 x3 x4 σ)
    else (if l2 = 0 then none else
    some (xldiv l3 l2))
/-- BentPenny$Shares.openRows(LBentPenny$Table;I)J -/
def f_Shares_openRows (p1 : Int) (σ : xSt) : Option (Int) :=
  xbR (f_Table_shareBelow 0 σ) fun r1 =>
  if r1 < 1 then (some 0)
  else (f_Shares_openRows_18 1000000 p1 r1 0 0 σ)
theorem r_Shares_openRows_18 : ∀ (n : Nat) {l1 : Int} {l2 : Int} {l3 : Int} {l5 : Int} {σ : xSt} {r : Int}, f_Shares_openRows_18 n l1 l2 l3 l5 σ = some r → Run 3 6 3 kX6_openRows (18, [some (vR 7), some (vI l1), some (vI l2), some (vL l3), none, some (vI l5)], [], σ) ((tL σ) r) := by
  intro n
  induction n with
  | zero =>
    intro _ _ _ _ _ _ h
    exact nomatch (show (none : Option (Int)) = some _ from h)
  | succ n ih =>
    intro l1 l2 l3 l5 σ r hf
    unfold f_Shares_openRows_18 at hf
    refine run_seg (k := 4) (s' := (if l5 < σ 7 2 then (27, [some (vR 7), some (vI l1), some (vI l2), some (vL l3), none, some (vI l5)], [], σ) else (43, [some (vR 7), some (vI l1), some (vI l2), some (vL l3), none, some (vI l5)], [], σ))) rfl ?_
    refine run_ite hf (fun _ hf => ?_) (fun _ hf => ?_)
    · refine run_seg (k := 4) (s' := (32, [some (vR 7), some (vI l1), some (vI l2), some (vL l3), none, some (vI l5)], [vI l5, vI l1, vR 7, vL l3], σ)) rfl ?_
      refine run_callN (w := fun a => some (vL a)) (m := 77) (as := [vR 7, vI l1, vI l5]) (pc := 35) (ls := [some (vR 7), some (vI l1), some (vI l2), some (vL l3), none, some (vI l5)]) (st' := [vL l3]) (σ := σ) hf rfl (fun _ h => (c_Shares_restOf h).mono (by decide)) (fun r2 hf => ?_)
      refine run_seg (k := 2) (s' := (37, [some (vR 7), some (vI l1), some (vI l2), some (vL (w64 (l3 + r2))), none, some (vI l5)], [], σ)) rfl ?_
      refine run_let (fun x3 => (37, [some (vR 7), some (vI l1), some (vI l2), some (vL x3), none, some (vI l5)], [], σ)) hf (fun x3 hf => ?_)
      refine run_seg (k := 1) (s' := (40, [some (vR 7), some (vI l1), some (vI l2), some (vL x3), none, some (vI (w32 (l5 + 1)))], [], σ)) rfl ?_
      refine run_let (fun x4 => (40, [some (vR 7), some (vI l1), some (vI l2), some (vL x3), none, some (vI x4)], [], σ)) hf (fun x4 hf => ?_)
      refine run_seg (k := 1) (s' := (18, [some (vR 7), some (vI l1), some (vI l2), some (vL x3), none, some (vI x4)], [], σ)) rfl ?_
      exact ih hf
    · refine run_seg (k := 3) (s' := (46, [some (vR 7), some (vI l1), some (vI l2), some (vL l3), none, some (vI l5)], [vL l2, vL l3], σ)) rfl ?_
      refine run_gdiv (s' := (47, [some (vR 7), some (vI l1), some (vI l2), some (vL l3), none, some (vI l5)], [vL (xldiv l3 l2)], σ)) hf rfl (fun hf => ?_)
      exact run_ret hf rfl
theorem c_Shares_openRows {p1 : Int} {σ : xSt} {r : Int} (hf : f_Shares_openRows p1 σ = some r) : Call (3 + 1) 76 [vR 7, vI p1] σ ((tL σ) r).1 ((tL σ) r).2 := by
  unfold f_Shares_openRows at hf
  refine call_of (own := 6) (rk := 3) (cd := kX6_openRows) (ls := [some (vR 7), some (vI p1), none, none, none, none]) (rT := (tL σ)) rfl rfl rfl rfl rfl ?_
  refine run_seg (k := 2) (s' := (2, [some (vR 7), some (vI p1), none, none, none, none], [vI 0, vR 7], σ)) rfl ?_
  refine run_callN (w := fun a => some (vI a)) (m := 88) (as := [vR 7, vI 0]) (pc := 5) (ls := [some (vR 7), some (vI p1), none, none, none, none]) (st' := []) (σ := σ) hf rfl (fun _ h => (c_Table_shareBelow h).mono (by decide)) (fun r1 hf => ?_)
  refine run_seg (k := 4) (s' := (if r1 < 1 then (11, [some (vR 7), some (vI p1), some (vI r1), none, none, none], [], σ) else (13, [some (vR 7), some (vI p1), some (vI r1), none, none, none], [], σ))) rfl ?_
  refine run_ite hf (fun _ hf => ?_) (fun _ hf => ?_)
  · refine run_seg (k := 1) (s' := (12, [some (vR 7), some (vI p1), some (vI r1), none, none, none], [vL 0], σ)) rfl ?_
    exact run_ret hf rfl
  · refine run_seg (k := 4) (s' := (18, [some (vR 7), some (vI p1), some (vI r1), some (vL 0), none, some (vI 0)], [], σ)) rfl ?_
    exact r_Shares_openRows_18 1000000 hf
def f_Shares_tellFewest_83 : Nat → Int → Int → Int → Int → Int → xSt → Option (xSt)
  | 0, _, _, _, _, _, _ => none
  | n + 1, l3, l4, l5, l7, l9, σ =>
    if l9 < l4 then (xbR (f_Shares_openRows (w32 (l3 + l9)) σ) fun r9 =>
    xlet (w64 (l7 + (xlshl r9 (w32 (l4 - l9))))) fun x10 =>
    xlet (w32 (l9 + 1)) fun x11 =>
    f_Shares_tellFewest_83 n l3 l4 l5 x10 x11 σ)
    else (xbW (f_Fraction_put 95 l7 (xlshl l5 l3) σ) fun r12 σ13 =>
    some σ13)
def f_Shares_tellFewest_49 : Nat → Int → Int → Int → Int → Int → xSt → Option (xSt)
  | 0, _, _, _, _, _, _ => none
  | n + 1, l3, l4, l5, l7, l9, σ =>
    if l9 < l3 then (xbR (f_Shares_openRows l9 σ) fun r6 =>
    xlet (w64 (l7 + (w64 ((xlshl r6 (w32 (l3 - l9))) * l5)))) fun x7 =>
    xlet (w32 (l9 + 1)) fun x8 =>
    f_Shares_tellFewest_49 n l3 l4 l5 x7 x8 σ)
    else (f_Shares_tellFewest_83 1000000 l3 l4 l5 l7 0 σ)
def f_Shares_tellFewest_29 (l2 : Int) (l3 : Int) (σ : xSt) : Option (xSt) :=
  xbR (f_Shares_periodOfTwo l2 σ) fun r4 =>
  xlet (w64 ((xlshl 1 r4) - 1)) fun x5 =>
  f_Shares_tellFewest_49 1000000 l3 r4 x5 0 0 σ
def f_Shares_tellFewest_8 : Nat → Int → Int → xSt → Option (xSt)
  | 0, _, _, _ => none
  | n + 1, l2, l3, σ =>
    if l3 < 5 then (if xand l2 1 = 0 then (xlet (xshr l2 1) fun x2 =>
    xlet (w32 (l3 + 1)) fun x3 =>
    f_Shares_tellFewest_8 n x2 x3 σ)
    else (f_Shares_tellFewest_29 l2 l3 σ))
    else (f_Shares_tellFewest_29 l2 l3 σ)
/-- BentPenny$Shares.tellFewest(LBentPenny$Table;LBentPenny$Fraction;)V -/
def f_Shares_tellFewest (σ : xSt) : Option (xSt) :=
  xbR (f_Table_shareBelow 0 σ) fun r1 =>
  f_Shares_tellFewest_8 1000000 r1 0 σ
theorem r_Shares_tellFewest_83 : ∀ (n : Nat) {l3 : Int} {l4 : Int} {l5 : Int} {l7 : Int} {l9 : Int} {g2 : Option xV} {σ : xSt} {r : xSt}, f_Shares_tellFewest_83 n l3 l4 l5 l7 l9 σ = some r → Run 4 6 0 kX6_tellFewest (83, [some (vR 7), some (vR 95), g2, some (vI l3), some (vI l4), some (vL l5), none, some (vL l7), none, some (vI l9)], [], σ) (tV r) := by
  intro n
  induction n with
  | zero =>
    intro _ _ _ _ _ _ _ _ h
    exact nomatch (show (none : Option (xSt)) = some _ from h)
  | succ n ih =>
    intro l3 l4 l5 l7 l9 g2 σ r hf
    unfold f_Shares_tellFewest_83 at hf
    refine run_seg (k := 3) (s' := (if l9 < l4 then (90, [some (vR 7), some (vR 95), g2, some (vI l3), some (vI l4), some (vL l5), none, some (vL l7), none, some (vI l9)], [], σ) else (115, [some (vR 7), some (vR 95), g2, some (vI l3), some (vI l4), some (vL l5), none, some (vL l7), none, some (vI l9)], [], σ))) rfl ?_
    refine run_ite hf (fun _ hf => ?_) (fun _ hf => ?_)
    · refine run_seg (k := 5) (s' := (97, [some (vR 7), some (vR 95), g2, some (vI l3), some (vI l4), some (vL l5), none, some (vL l7), none, some (vI l9)], [vI (w32 (l3 + l9)), vR 7, vL l7], σ)) rfl ?_
      refine run_callN (w := fun a => some (vL a)) (m := 76) (as := [vR 7, vI (w32 (l3 + l9))]) (pc := 100) (ls := [some (vR 7), some (vR 95), g2, some (vI l3), some (vI l4), some (vL l5), none, some (vL l7), none, some (vI l9)]) (st' := [vL l7]) (σ := σ) hf rfl (fun _ h => (c_Shares_openRows h).mono (by decide)) (fun r9 hf => ?_)
      refine run_seg (k := 6) (s' := (109, [some (vR 7), some (vR 95), g2, some (vI l3), some (vI l4), some (vL l5), none, some (vL (w64 (l7 + (xlshl r9 (w32 (l4 - l9)))))), none, some (vI l9)], [], σ)) rfl ?_
      refine run_let (fun x10 => (109, [some (vR 7), some (vR 95), g2, some (vI l3), some (vI l4), some (vL l5), none, some (vL x10), none, some (vI l9)], [], σ)) hf (fun x10 hf => ?_)
      refine run_seg (k := 1) (s' := (112, [some (vR 7), some (vR 95), g2, some (vI l3), some (vI l4), some (vL l5), none, some (vL x10), none, some (vI (w32 (l9 + 1)))], [], σ)) rfl ?_
      refine run_let (fun x11 => (112, [some (vR 7), some (vR 95), g2, some (vI l3), some (vI l4), some (vL l5), none, some (vL x10), none, some (vI x11)], [], σ)) hf (fun x11 hf => ?_)
      refine run_seg (k := 1) (s' := (83, [some (vR 7), some (vR 95), g2, some (vI l3), some (vI l4), some (vL l5), none, some (vL x10), none, some (vI x11)], [], σ)) rfl ?_
      exact ih hf
    · refine run_seg (k := 5) (s' := (122, [some (vR 7), some (vR 95), g2, some (vI l3), some (vI l4), some (vL l5), none, some (vL l7), none, some (vI l9)], [vL (xlshl l5 l3), vL l7, vR 95], σ)) rfl ?_
      refine run_callW (w := fun a => some (vI a)) (m := 28) (as := [vR 95, vL l7, vL (xlshl l5 l3)]) (pc := 125) (ls := [some (vR 7), some (vR 95), g2, some (vI l3), some (vI l4), some (vL l5), none, some (vL l7), none, some (vI l9)]) (st' := []) (σ := σ) hf rfl (fun _ _ h => (c_Fraction_put_95 h).mono (by decide)) (fun r12 σ13 hf => ?_)
      refine run_seg (k := 1) (s' := (126, [some (vR 7), some (vR 95), g2, some (vI l3), some (vI l4), some (vL l5), none, some (vL l7), none, some (vI l9)], [], σ13)) rfl ?_
      exact run_ret hf rfl
theorem r_Shares_tellFewest_49 : ∀ (n : Nat) {l3 : Int} {l4 : Int} {l5 : Int} {l7 : Int} {l9 : Int} {g2 : Option xV} {σ : xSt} {r : xSt}, f_Shares_tellFewest_49 n l3 l4 l5 l7 l9 σ = some r → Run 4 6 0 kX6_tellFewest (49, [some (vR 7), some (vR 95), g2, some (vI l3), some (vI l4), some (vL l5), none, some (vL l7), none, some (vI l9)], [], σ) (tV r) := by
  intro n
  induction n with
  | zero =>
    intro _ _ _ _ _ _ _ _ h
    exact nomatch (show (none : Option (xSt)) = some _ from h)
  | succ n ih =>
    intro l3 l4 l5 l7 l9 g2 σ r hf
    unfold f_Shares_tellFewest_49 at hf
    refine run_seg (k := 3) (s' := (if l9 < l3 then (55, [some (vR 7), some (vR 95), g2, some (vI l3), some (vI l4), some (vL l5), none, some (vL l7), none, some (vI l9)], [], σ) else (80, [some (vR 7), some (vR 95), g2, some (vI l3), some (vI l4), some (vL l5), none, some (vL l7), none, some (vI l9)], [], σ))) rfl ?_
    refine run_ite hf (fun _ hf => ?_) (fun _ hf => ?_)
    · refine run_seg (k := 3) (s' := (60, [some (vR 7), some (vR 95), g2, some (vI l3), some (vI l4), some (vL l5), none, some (vL l7), none, some (vI l9)], [vI l9, vR 7, vL l7], σ)) rfl ?_
      refine run_callN (w := fun a => some (vL a)) (m := 76) (as := [vR 7, vI l9]) (pc := 63) (ls := [some (vR 7), some (vR 95), g2, some (vI l3), some (vI l4), some (vL l5), none, some (vL l7), none, some (vI l9)]) (st' := [vL l7]) (σ := σ) hf rfl (fun _ h => (c_Shares_openRows h).mono (by decide)) (fun r6 hf => ?_)
      refine run_seg (k := 8) (s' := (74, [some (vR 7), some (vR 95), g2, some (vI l3), some (vI l4), some (vL l5), none, some (vL (w64 (l7 + (w64 ((xlshl r6 (w32 (l3 - l9))) * l5))))), none, some (vI l9)], [], σ)) rfl ?_
      refine run_let (fun x7 => (74, [some (vR 7), some (vR 95), g2, some (vI l3), some (vI l4), some (vL l5), none, some (vL x7), none, some (vI l9)], [], σ)) hf (fun x7 hf => ?_)
      refine run_seg (k := 1) (s' := (77, [some (vR 7), some (vR 95), g2, some (vI l3), some (vI l4), some (vL l5), none, some (vL x7), none, some (vI (w32 (l9 + 1)))], [], σ)) rfl ?_
      refine run_let (fun x8 => (77, [some (vR 7), some (vR 95), g2, some (vI l3), some (vI l4), some (vL l5), none, some (vL x7), none, some (vI x8)], [], σ)) hf (fun x8 hf => ?_)
      refine run_seg (k := 1) (s' := (49, [some (vR 7), some (vR 95), g2, some (vI l3), some (vI l4), some (vL l5), none, some (vL x7), none, some (vI x8)], [], σ)) rfl ?_
      exact ih hf
    · refine run_seg (k := 2) (s' := (83, [some (vR 7), some (vR 95), g2, some (vI l3), some (vI l4), some (vL l5), none, some (vL l7), none, some (vI 0)], [], σ)) rfl ?_
      exact r_Shares_tellFewest_83 1000000 hf
theorem r_Shares_tellFewest_29 {l2 : Int} {l3 : Int} {g4 : Option xV} {g5 : Option xV} {g6 : Option xV} {g7 : Option xV} {g8 : Option xV} {g9 : Option xV} {σ : xSt} {r : xSt} (hf : f_Shares_tellFewest_29 l2 l3 σ = some r) : Run 4 6 0 kX6_tellFewest (29, [some (vR 7), some (vR 95), some (vI l2), some (vI l3), g4, g5, g6, g7, g8, g9], [], σ) (tV r) := by
  unfold f_Shares_tellFewest_29 at hf
  refine run_seg (k := 1) (s' := (30, [some (vR 7), some (vR 95), some (vI l2), some (vI l3), g4, g5, g6, g7, g8, g9], [vI l2], σ)) rfl ?_
  refine run_callN (w := fun a => some (vI a)) (m := 75) (as := [vI l2]) (pc := 33) (ls := [some (vR 7), some (vR 95), some (vI l2), some (vI l3), g4, g5, g6, g7, g8, g9]) (st' := []) (σ := σ) hf rfl (fun _ h => (c_Shares_periodOfTwo h).mono (by decide)) (fun r4 hf => ?_)
  refine run_seg (k := 7) (s' := (43, [some (vR 7), some (vR 95), some (vI l2), some (vI l3), some (vI r4), some (vL (w64 ((xlshl 1 r4) - 1))), none, g7, g8, g9], [], σ)) rfl ?_
  refine run_let (fun x5 => (43, [some (vR 7), some (vR 95), some (vI l2), some (vI l3), some (vI r4), some (vL x5), none, g7, g8, g9], [], σ)) hf (fun x5 hf => ?_)
  refine run_seg (k := 4) (s' := (49, [some (vR 7), some (vR 95), some (vI l2), some (vI l3), some (vI r4), some (vL x5), none, some (vL 0), none, some (vI 0)], [], σ)) rfl ?_
  exact r_Shares_tellFewest_49 1000000 hf
theorem r_Shares_tellFewest_8 : ∀ (n : Nat) {l2 : Int} {l3 : Int} {g4 : Option xV} {g5 : Option xV} {g6 : Option xV} {g7 : Option xV} {g8 : Option xV} {g9 : Option xV} {σ : xSt} {r : xSt}, f_Shares_tellFewest_8 n l2 l3 σ = some r → Run 4 6 0 kX6_tellFewest (8, [some (vR 7), some (vR 95), some (vI l2), some (vI l3), g4, g5, g6, g7, g8, g9], [], σ) (tV r) := by
  intro n
  induction n with
  | zero =>
    intro _ _ _ _ _ _ _ _ _ _ h
    exact nomatch (show (none : Option (xSt)) = some _ from h)
  | succ n ih =>
    intro l2 l3 g4 g5 g6 g7 g8 g9 σ r hf
    unfold f_Shares_tellFewest_8 at hf
    refine run_seg (k := 3) (s' := (if l3 < 5 then (13, [some (vR 7), some (vR 95), some (vI l2), some (vI l3), g4, g5, g6, g7, g8, g9], [], σ) else (29, [some (vR 7), some (vR 95), some (vI l2), some (vI l3), g4, g5, g6, g7, g8, g9], [], σ))) rfl ?_
    refine run_ite hf (fun _ hf => ?_) (fun _ hf => ?_)
    · refine run_seg (k := 4) (s' := (if xand l2 1 = 0 then (19, [some (vR 7), some (vR 95), some (vI l2), some (vI l3), g4, g5, g6, g7, g8, g9], [], σ) else (29, [some (vR 7), some (vR 95), some (vI l2), some (vI l3), g4, g5, g6, g7, g8, g9], [], σ))) rfl ?_
      refine run_ite hf (fun _ hf => ?_) (fun _ hf => ?_)
      · refine run_seg (k := 4) (s' := (23, [some (vR 7), some (vR 95), some (vI (xshr l2 1)), some (vI l3), g4, g5, g6, g7, g8, g9], [], σ)) rfl ?_
        refine run_let (fun x2 => (23, [some (vR 7), some (vR 95), some (vI x2), some (vI l3), g4, g5, g6, g7, g8, g9], [], σ)) hf (fun x2 hf => ?_)
        refine run_seg (k := 1) (s' := (26, [some (vR 7), some (vR 95), some (vI x2), some (vI (w32 (l3 + 1))), g4, g5, g6, g7, g8, g9], [], σ)) rfl ?_
        refine run_let (fun x3 => (26, [some (vR 7), some (vR 95), some (vI x2), some (vI x3), g4, g5, g6, g7, g8, g9], [], σ)) hf (fun x3 hf => ?_)
        refine run_seg (k := 1) (s' := (8, [some (vR 7), some (vR 95), some (vI x2), some (vI x3), g4, g5, g6, g7, g8, g9], [], σ)) rfl ?_
        exact ih hf
      · exact r_Shares_tellFewest_29 hf
    · exact r_Shares_tellFewest_29 hf
theorem c_Shares_tellFewest {σ : xSt} {r : xSt} (hf : f_Shares_tellFewest σ = some r) : Call (4 + 1) 74 [vR 7, vR 95] σ (tV r).1 (tV r).2 := by
  unfold f_Shares_tellFewest at hf
  refine call_of (own := 6) (rk := 0) (cd := kX6_tellFewest) (ls := [some (vR 7), some (vR 95), none, none, none, none, none, none, none, none]) (rT := tV) rfl rfl rfl rfl rfl ?_
  refine run_seg (k := 2) (s' := (2, [some (vR 7), some (vR 95), none, none, none, none, none, none, none, none], [vI 0, vR 7], σ)) rfl ?_
  refine run_callN (w := fun a => some (vI a)) (m := 88) (as := [vR 7, vI 0]) (pc := 5) (ls := [some (vR 7), some (vR 95), none, none, none, none, none, none, none, none]) (st' := []) (σ := σ) hf rfl (fun _ h => (c_Table_shareBelow h).mono (by decide)) (fun r1 hf => ?_)
  refine run_seg (k := 3) (s' := (8, [some (vR 7), some (vR 95), some (vI r1), some (vI 0), none, none, none, none, none, none], [], σ)) rfl ?_
  exact r_Shares_tellFewest_8 1000000 hf
/-- BentPenny.fewest(I)J -/
def f_X_fewest (p1 : Int) (σ : xSt) : Option (Option Int × xSt) :=
  xbR (f_Shares_areTold σ) fun r1 =>
  if r1 = 0 then (some (none, σ))
  else (xbR (f_X_isWithin p1 2 σ) fun r2 =>
  if r2 = 0 then (some (none, σ))
  else (xbR (f_Shares_tellFewest σ) fun σ3 =>
  xbR (f_Fraction_part 95 p1 σ3) fun r4 =>
  some (some r4, σ3)))
theorem c_X_fewest {p1 : Int} {σ : xSt} {r : Option Int × xSt} (hf : f_X_fewest p1 σ = some r) : Call (5 + 1) 182 [vR 0, vI p1] σ (tXL r).1 (tXL r).2 := by
  unfold f_X_fewest at hf
  refine call_of (own := 11) (rk := 3) (cd := kX11_fewest) (ls := [some (vR 0), some (vI p1)]) (rT := tXL) rfl rfl rfl rfl rfl ?_
  refine run_seg (k := 3) (s' := (7, [some (vR 0), some (vI p1)], [vR 7], σ)) rfl ?_
  refine run_callN (w := fun a => some (vI a)) (m := 72) (as := [vR 7]) (pc := 10) (ls := [some (vR 0), some (vI p1)]) (st' := []) (σ := σ) hf rfl (fun _ h => (c_Shares_areTold h).mono (by decide)) (fun r1 hf => ?_)
  refine run_seg (k := 1) (s' := (if r1 = 0 then (21, [some (vR 0), some (vI p1)], [], σ) else (13, [some (vR 0), some (vI p1)], [], σ))) rfl ?_
  refine run_ite hf (fun _ hf => ?_) (fun _ hf => ?_)
  · exact run_ret hf rfl
  · refine run_seg (k := 2) (s' := (15, [some (vR 0), some (vI p1)], [vI 2, vI p1], σ)) rfl ?_
    refine run_callN (w := fun a => some (vI a)) (m := 207) (as := [vI p1, vI 2]) (pc := 18) (ls := [some (vR 0), some (vI p1)]) (st' := []) (σ := σ) hf rfl (fun _ h => (c_X_isWithin h).mono (by decide)) (fun r2 hf => ?_)
    refine run_seg (k := 1) (s' := (if r2 = 0 then (21, [some (vR 0), some (vI p1)], [], σ) else (29, [some (vR 0), some (vI p1)], [], σ))) rfl ?_
    refine run_ite hf (fun _ hf => ?_) (fun _ hf => ?_)
    · exact run_ret hf rfl
    · refine run_seg (k := 5) (s' := (40, [some (vR 0), some (vI p1)], [vR 95, vR 7], σ)) rfl ?_
      refine run_callV (m := 74) (as := [vR 7, vR 95]) (pc := 43) (ls := [some (vR 0), some (vI p1)]) (st' := []) (σ := σ) hf rfl (fun _ h => (c_Shares_tellFewest h).mono (by decide)) (fun σ3 hf => ?_)
      refine run_seg (k := 3) (s' := (48, [some (vR 0), some (vI p1)], [vI p1, vR 95], σ3)) rfl ?_
      refine run_callN (w := fun a => some (vL a)) (m := 29) (as := [vR 95, vI p1]) (pc := 51) (ls := [some (vR 0), some (vI p1)]) (st' := []) (σ := σ3) hf rfl (fun _ h => (c_Fraction_part_95 h).mono (by decide)) (fun r4 hf => ?_)
      exact run_ret hf rfl
def f_Shares_nearestRows_27 : Nat → Int → Int → Int → Int → Int → Int → xSt → Option (Int)
  | 0, _, _, _, _, _, _, _ => none
  | n + 1, l1, l2, l3, l4, l5, l7, σ =>
    if l7 < σ 7 2 then (xbR (f_Shares_restOf l1 l7 σ) fun r3 =>
    if 0 < xlc r3 l5 then (xlet (w32 (l4 + 1)) fun x4 =>
    xlet (w32 (l7 + 1)) fun x5 =>
    f_Shares_nearestRows_27 n l1 l2 l3 x4 l5 x5 σ)
    else (if xlc r3 l5 = 0 then (if l7 < l2 then (xlet (w32 (l4 + 1)) fun x6 =>
    xlet (w32 (l7 + 1)) fun x7 =>
    f_Shares_nearestRows_27 n l1 l2 l3 x6 l5 x7 σ)
    else (xlet (w32 (l7 + 1)) fun x8 =>
    f_Shares_nearestRows_27 n l1 l2 l3 l4 l5 x8 σ))
    else (xlet (w32 (l7 + 1)) fun x9 =>
    f_Shares_nearestRows_27 n l1 l2 l3 l4 l5 x9 σ)))
    else (xbR (f_Table_shareAbove l2 σ) fun r10 =>
    if l3 = 0 then none else
    xlet (xldiv (xlshl r10 l1) l3) fun x11 =>
    xbR (f_Shares_openRows l1 σ) fun r12 =>
    if xlc l4 r12 < 0 then (some (w32 (w64 (x11 + 1))))
    else (some (w32 x11)))
/-- BentPenny$Shares.nearestRows(LBentPenny$Table;II)I -/
def f_Shares_nearestRows (p1 : Int) (p2 : Int) (σ : xSt) : Option (Int) :=
  xbR (f_Table_shareBelow p2 σ) fun r1 =>
  if r1 < 1 then (some 0)
  else (xbR (f_Shares_restOf p1 p2 σ) fun r2 =>
  f_Shares_nearestRows_27 1000000 p1 p2 r1 0 r2 0 σ)
theorem r_Shares_nearestRows_27 : ∀ (n : Nat) {l1 : Int} {l2 : Int} {l3 : Int} {l4 : Int} {l5 : Int} {l7 : Int} {g8 : Option xV} {g9 : Option xV} {σ : xSt} {r : Int}, f_Shares_nearestRows_27 n l1 l2 l3 l4 l5 l7 σ = some r → Run 4 6 1 kX6_nearestRows (27, [some (vR 7), some (vI l1), some (vI l2), some (vI l3), some (vI l4), some (vL l5), none, some (vI l7), g8, g9], [], σ) ((tI σ) r) := by
  intro n
  induction n with
  | zero =>
    intro _ _ _ _ _ _ _ _ _ _ h
    exact nomatch (show (none : Option (Int)) = some _ from h)
  | succ n ih =>
    intro l1 l2 l3 l4 l5 l7 g8 g9 σ r hf
    unfold f_Shares_nearestRows_27 at hf
    refine run_seg (k := 4) (s' := (if l7 < σ 7 2 then (36, [some (vR 7), some (vI l1), some (vI l2), some (vI l3), some (vI l4), some (vL l5), none, some (vI l7), g8, g9], [], σ) else (76, [some (vR 7), some (vI l1), some (vI l2), some (vI l3), some (vI l4), some (vL l5), none, some (vI l7), g8, g9], [], σ))) rfl ?_
    refine run_ite hf (fun _ hf => ?_) (fun _ hf => ?_)
    · refine run_seg (k := 3) (s' := (40, [some (vR 7), some (vI l1), some (vI l2), some (vI l3), some (vI l4), some (vL l5), none, some (vI l7), g8, g9], [vI l7, vI l1, vR 7], σ)) rfl ?_
      refine run_callN (w := fun a => some (vL a)) (m := 77) (as := [vR 7, vI l1, vI l7]) (pc := 43) (ls := [some (vR 7), some (vI l1), some (vI l2), some (vI l3), some (vI l4), some (vL l5), none, some (vI l7), g8, g9]) (st' := []) (σ := σ) hf rfl (fun _ h => (c_Shares_restOf h).mono (by decide)) (fun r3 hf => ?_)
      refine run_seg (k := 5) (s' := (if 0 < xlc r3 l5 then (67, [some (vR 7), some (vI l1), some (vI l2), some (vI l3), some (vI l4), some (vL l5), none, some (vI l7), some (vL r3), none], [], σ) else (53, [some (vR 7), some (vI l1), some (vI l2), some (vI l3), some (vI l4), some (vL l5), none, some (vI l7), some (vL r3), none], [], σ))) rfl ?_
      refine run_ite hf (fun _ hf => ?_) (fun _ hf => ?_)
      · refine run_seg (k := 1) (s' := (70, [some (vR 7), some (vI l1), some (vI l2), some (vI l3), some (vI (w32 (l4 + 1))), some (vL l5), none, some (vI l7), some (vL r3), none], [], σ)) rfl ?_
        refine run_let (fun x4 => (70, [some (vR 7), some (vI l1), some (vI l2), some (vI l3), some (vI x4), some (vL l5), none, some (vI l7), some (vL r3), none], [], σ)) hf (fun x4 hf => ?_)
        refine run_seg (k := 1) (s' := (73, [some (vR 7), some (vI l1), some (vI l2), some (vI l3), some (vI x4), some (vL l5), none, some (vI (w32 (l7 + 1))), some (vL r3), none], [], σ)) rfl ?_
        refine run_let (fun x5 => (73, [some (vR 7), some (vI l1), some (vI l2), some (vI l3), some (vI x4), some (vL l5), none, some (vI x5), some (vL r3), none], [], σ)) hf (fun x5 hf => ?_)
        refine run_seg (k := 1) (s' := (27, [some (vR 7), some (vI l1), some (vI l2), some (vI l3), some (vI x4), some (vL l5), none, some (vI x5), some (vL r3), none], [], σ)) rfl ?_
        exact ih hf
      · refine run_seg (k := 4) (s' := (if xlc r3 l5 = 0 then (61, [some (vR 7), some (vI l1), some (vI l2), some (vI l3), some (vI l4), some (vL l5), none, some (vI l7), some (vL r3), none], [], σ) else (70, [some (vR 7), some (vI l1), some (vI l2), some (vI l3), some (vI l4), some (vL l5), none, some (vI l7), some (vL r3), none], [], σ))) rfl ?_
        refine run_ite hf (fun _ hf => ?_) (fun _ hf => ?_)
        · refine run_seg (k := 3) (s' := (if l7 < l2 then (67, [some (vR 7), some (vI l1), some (vI l2), some (vI l3), some (vI l4), some (vL l5), none, some (vI l7), some (vL r3), none], [], σ) else (70, [some (vR 7), some (vI l1), some (vI l2), some (vI l3), some (vI l4), some (vL l5), none, some (vI l7), some (vL r3), none], [], σ))) rfl ?_
          refine run_ite hf (fun _ hf => ?_) (fun _ hf => ?_)
          · refine run_seg (k := 1) (s' := (70, [some (vR 7), some (vI l1), some (vI l2), some (vI l3), some (vI (w32 (l4 + 1))), some (vL l5), none, some (vI l7), some (vL r3), none], [], σ)) rfl ?_
            refine run_let (fun x6 => (70, [some (vR 7), some (vI l1), some (vI l2), some (vI l3), some (vI x6), some (vL l5), none, some (vI l7), some (vL r3), none], [], σ)) hf (fun x6 hf => ?_)
            refine run_seg (k := 1) (s' := (73, [some (vR 7), some (vI l1), some (vI l2), some (vI l3), some (vI x6), some (vL l5), none, some (vI (w32 (l7 + 1))), some (vL r3), none], [], σ)) rfl ?_
            refine run_let (fun x7 => (73, [some (vR 7), some (vI l1), some (vI l2), some (vI l3), some (vI x6), some (vL l5), none, some (vI x7), some (vL r3), none], [], σ)) hf (fun x7 hf => ?_)
            refine run_seg (k := 1) (s' := (27, [some (vR 7), some (vI l1), some (vI l2), some (vI l3), some (vI x6), some (vL l5), none, some (vI x7), some (vL r3), none], [], σ)) rfl ?_
            exact ih hf
          · refine run_seg (k := 1) (s' := (73, [some (vR 7), some (vI l1), some (vI l2), some (vI l3), some (vI l4), some (vL l5), none, some (vI (w32 (l7 + 1))), some (vL r3), none], [], σ)) rfl ?_
            refine run_let (fun x8 => (73, [some (vR 7), some (vI l1), some (vI l2), some (vI l3), some (vI l4), some (vL l5), none, some (vI x8), some (vL r3), none], [], σ)) hf (fun x8 hf => ?_)
            refine run_seg (k := 1) (s' := (27, [some (vR 7), some (vI l1), some (vI l2), some (vI l3), some (vI l4), some (vL l5), none, some (vI x8), some (vL r3), none], [], σ)) rfl ?_
            exact ih hf
        · refine run_seg (k := 1) (s' := (73, [some (vR 7), some (vI l1), some (vI l2), some (vI l3), some (vI l4), some (vL l5), none, some (vI (w32 (l7 + 1))), some (vL r3), none], [], σ)) rfl ?_
          refine run_let (fun x9 => (73, [some (vR 7), some (vI l1), some (vI l2), some (vI l3), some (vI l4), some (vL l5), none, some (vI x9), some (vL r3), none], [], σ)) hf (fun x9 hf => ?_)
          refine run_seg (k := 1) (s' := (27, [some (vR 7), some (vI l1), some (vI l2), some (vI l3), some (vI l4), some (vL l5), none, some (vI x9), some (vL r3), none], [], σ)) rfl ?_
          exact ih hf
    · refine run_seg (k := 2) (s' := (78, [some (vR 7), some (vI l1), some (vI l2), some (vI l3), some (vI l4), some (vL l5), none, some (vI l7), g8, g9], [vI l2, vR 7], σ)) rfl ?_
      refine run_callN (w := fun a => some (vI a)) (m := 87) (as := [vR 7, vI l2]) (pc := 81) (ls := [some (vR 7), some (vI l1), some (vI l2), some (vI l3), some (vI l4), some (vL l5), none, some (vI l7), g8, g9]) (st' := []) (σ := σ) hf rfl (fun _ h => (c_Table_shareAbove h).mono (by decide)) (fun r10 hf => ?_)
      refine run_seg (k := 5) (s' := (86, [some (vR 7), some (vI l1), some (vI l2), some (vI l3), some (vI l4), some (vL l5), none, some (vI l7), g8, g9], [vL l3, vL (xlshl r10 l1)], σ)) rfl ?_
      refine run_gdiv (s' := (87, [some (vR 7), some (vI l1), some (vI l2), some (vI l3), some (vI l4), some (vL l5), none, some (vI l7), g8, g9], [vL (xldiv (xlshl r10 l1) l3)], σ)) hf rfl (fun hf => ?_)
      refine run_seg (k := 1) (s' := (89, [some (vR 7), some (vI l1), some (vI l2), some (vI l3), some (vI l4), some (vL l5), none, some (vL (xldiv (xlshl r10 l1) l3)), none, g9], [], σ)) rfl ?_
      refine run_let (fun x11 => (89, [some (vR 7), some (vI l1), some (vI l2), some (vI l3), some (vI l4), some (vL l5), none, some (vL x11), none, g9], [], σ)) hf (fun x11 hf => ?_)
      refine run_seg (k := 4) (s' := (94, [some (vR 7), some (vI l1), some (vI l2), some (vI l3), some (vI l4), some (vL l5), none, some (vL x11), none, g9], [vI l1, vR 7, vL l4], σ)) rfl ?_
      refine run_callN (w := fun a => some (vL a)) (m := 76) (as := [vR 7, vI l1]) (pc := 97) (ls := [some (vR 7), some (vI l1), some (vI l2), some (vI l3), some (vI l4), some (vL l5), none, some (vL x11), none, g9]) (st' := [vL l4]) (σ := σ) hf rfl (fun _ h => (c_Shares_openRows h).mono (by decide)) (fun r12 hf => ?_)
      refine run_seg (k := 2) (s' := (if xlc l4 r12 < 0 then (101, [some (vR 7), some (vI l1), some (vI l2), some (vI l3), some (vI l4), some (vL l5), none, some (vL x11), none, g9], [], σ) else (108, [some (vR 7), some (vI l1), some (vI l2), some (vI l3), some (vI l4), some (vL l5), none, some (vL x11), none, g9], [], σ))) rfl ?_
      refine run_ite hf (fun _ hf => ?_) (fun _ hf => ?_)
      · refine run_seg (k := 5) (s' := (111, [some (vR 7), some (vI l1), some (vI l2), some (vI l3), some (vI l4), some (vL l5), none, some (vL x11), none, g9], [vI (w32 (w64 (x11 + 1)))], σ)) rfl ?_
        exact run_ret hf rfl
      · refine run_seg (k := 2) (s' := (111, [some (vR 7), some (vI l1), some (vI l2), some (vI l3), some (vI l4), some (vL l5), none, some (vL x11), none, g9], [vI (w32 x11)], σ)) rfl ?_
        exact run_ret hf rfl
theorem c_Shares_nearestRows {p1 : Int} {p2 : Int} {σ : xSt} {r : Int} (hf : f_Shares_nearestRows p1 p2 σ = some r) : Call (4 + 1) 78 [vR 7, vI p1, vI p2] σ ((tI σ) r).1 ((tI σ) r).2 := by
  unfold f_Shares_nearestRows at hf
  refine call_of (own := 6) (rk := 1) (cd := kX6_nearestRows) (ls := [some (vR 7), some (vI p1), some (vI p2), none, none, none, none, none, none, none]) (rT := (tI σ)) rfl rfl rfl rfl rfl ?_
  refine run_seg (k := 2) (s' := (2, [some (vR 7), some (vI p1), some (vI p2), none, none, none, none, none, none, none], [vI p2, vR 7], σ)) rfl ?_
  refine run_callN (w := fun a => some (vI a)) (m := 88) (as := [vR 7, vI p2]) (pc := 5) (ls := [some (vR 7), some (vI p1), some (vI p2), none, none, none, none, none, none, none]) (st' := []) (σ := σ) hf rfl (fun _ h => (c_Table_shareBelow h).mono (by decide)) (fun r1 hf => ?_)
  refine run_seg (k := 4) (s' := (if r1 < 1 then (11, [some (vR 7), some (vI p1), some (vI p2), some (vI r1), none, none, none, none, none, none], [], σ) else (13, [some (vR 7), some (vI p1), some (vI p2), some (vI r1), none, none, none, none, none, none], [], σ))) rfl ?_
  refine run_ite hf (fun _ hf => ?_) (fun _ hf => ?_)
  · refine run_seg (k := 1) (s' := (12, [some (vR 7), some (vI p1), some (vI p2), some (vI r1), none, none, none, none, none, none], [vI 0], σ)) rfl ?_
    exact run_ret hf rfl
  · refine run_seg (k := 5) (s' := (19, [some (vR 7), some (vI p1), some (vI p2), some (vI r1), some (vI 0), none, none, none, none, none], [vI p2, vI p1, vR 7], σ)) rfl ?_
    refine run_callN (w := fun a => some (vL a)) (m := 77) (as := [vR 7, vI p1, vI p2]) (pc := 22) (ls := [some (vR 7), some (vI p1), some (vI p2), some (vI r1), some (vI 0), none, none, none, none, none]) (st' := []) (σ := σ) hf rfl (fun _ h => (c_Shares_restOf h).mono (by decide)) (fun r2 hf => ?_)
    refine run_seg (k := 3) (s' := (27, [some (vR 7), some (vI p1), some (vI p2), some (vI r1), some (vI 0), some (vL r2), none, some (vI 0), none, none], [], σ)) rfl ?_
    exact r_Shares_nearestRows_27 1000000 hf
/-- BentPenny.nearest(II)I -/
def f_X_nearest (p1 : Int) (p2 : Int) (σ : xSt) : Option (Int) :=
  xbR (f_X_isWithin p1 21 σ) fun r1 =>
  if r1 = 0 then (some (-1))
  else (xbR (f_Table_hasEnd p2 σ) fun r2 =>
  if r2 = 0 then (some (-1))
  else (xbR (f_Shares_areTold σ) fun r3 =>
  if r3 = 0 then (some (-1))
  else (xbR (f_Shares_nearestRows p1 p2 σ) fun r4 =>
  some r4)))
theorem c_X_nearest {p1 : Int} {p2 : Int} {σ : xSt} {r : Int} (hf : f_X_nearest p1 p2 σ = some r) : Call (5 + 1) 183 [vR 0, vI p1, vI p2] σ ((tI σ) r).1 ((tI σ) r).2 := by
  unfold f_X_nearest at hf
  refine call_of (own := 11) (rk := 1) (cd := kX11_nearest) (ls := [some (vR 0), some (vI p1), some (vI p2)]) (rT := (tI σ)) rfl rfl rfl rfl rfl ?_
  refine run_seg (k := 2) (s' := (3, [some (vR 0), some (vI p1), some (vI p2)], [vI 21, vI p1], σ)) rfl ?_
  refine run_callN (w := fun a => some (vI a)) (m := 207) (as := [vI p1, vI 21]) (pc := 6) (ls := [some (vR 0), some (vI p1), some (vI p2)]) (st' := []) (σ := σ) hf rfl (fun _ h => (c_X_isWithin h).mono (by decide)) (fun r1 hf => ?_)
  refine run_seg (k := 1) (s' := (if r1 = 0 then (36, [some (vR 0), some (vI p1), some (vI p2)], [], σ) else (9, [some (vR 0), some (vI p1), some (vI p2)], [], σ))) rfl ?_
  refine run_ite hf (fun _ hf => ?_) (fun _ hf => ?_)
  · refine run_seg (k := 1) (s' := (37, [some (vR 0), some (vI p1), some (vI p2)], [vI (-1)], σ)) rfl ?_
    exact run_ret hf rfl
  · refine run_seg (k := 4) (s' := (17, [some (vR 0), some (vI p1), some (vI p2)], [vI p2, vR 7], σ)) rfl ?_
    refine run_callN (w := fun a => some (vI a)) (m := 85) (as := [vR 7, vI p2]) (pc := 20) (ls := [some (vR 0), some (vI p1), some (vI p2)]) (st' := []) (σ := σ) hf rfl (fun _ h => (c_Table_hasEnd h).mono (by decide)) (fun r2 hf => ?_)
    refine run_seg (k := 1) (s' := (if r2 = 0 then (36, [some (vR 0), some (vI p1), some (vI p2)], [], σ) else (23, [some (vR 0), some (vI p1), some (vI p2)], [], σ))) rfl ?_
    refine run_ite hf (fun _ hf => ?_) (fun _ hf => ?_)
    · refine run_seg (k := 1) (s' := (37, [some (vR 0), some (vI p1), some (vI p2)], [vI (-1)], σ)) rfl ?_
      exact run_ret hf rfl
    · refine run_seg (k := 3) (s' := (30, [some (vR 0), some (vI p1), some (vI p2)], [vR 7], σ)) rfl ?_
      refine run_callN (w := fun a => some (vI a)) (m := 72) (as := [vR 7]) (pc := 33) (ls := [some (vR 0), some (vI p1), some (vI p2)]) (st' := []) (σ := σ) hf rfl (fun _ h => (c_Shares_areTold h).mono (by decide)) (fun r3 hf => ?_)
      refine run_seg (k := 1) (s' := (if r3 = 0 then (36, [some (vR 0), some (vI p1), some (vI p2)], [], σ) else (38, [some (vR 0), some (vI p1), some (vI p2)], [], σ))) rfl ?_
      refine run_ite hf (fun _ hf => ?_) (fun _ hf => ?_)
      · refine run_seg (k := 1) (s' := (37, [some (vR 0), some (vI p1), some (vI p2)], [vI (-1)], σ)) rfl ?_
        exact run_ret hf rfl
      · refine run_seg (k := 5) (s' := (47, [some (vR 0), some (vI p1), some (vI p2)], [vI p2, vI p1, vR 7], σ)) rfl ?_
        refine run_callN (w := fun a => some (vI a)) (m := 78) (as := [vR 7, vI p1, vI p2]) (pc := 50) (ls := [some (vR 0), some (vI p1), some (vI p2)]) (st' := []) (σ := σ) hf rfl (fun _ h => (c_Shares_nearestRows h).mono (by decide)) (fun r4 hf => ?_)
        exact run_ret hf rfl
def f_Shares_tellOff_13 : Nat → Int → Int → Int → Int → xSt → Option (xSt)
  | 0, _, _, _, _, _ => none
  | n + 1, l1, l3, l5, l7, σ =>
    if l7 < σ 7 2 then (xbR (f_Shares_nearestRows l1 l7 σ) fun r2 =>
    xbR (f_Table_shareAbove l7 σ) fun r3 =>
    xlet (w64 (l5 + (xlabs (w64 ((w64 (r2 * l3)) - (xlshl r3 l1)))))) fun x4 =>
    xlet (w32 (l7 + 1)) fun x5 =>
    f_Shares_tellOff_13 n l1 l3 x4 x5 σ)
    else (xbW (f_Fraction_put 95 l5 (xlshl l3 (w32 (l1 + 1))) σ) fun r6 σ7 =>
    some σ7)
/-- BentPenny$Shares.tellOff(LBentPenny$Table;ILBentPenny$Fraction;)V -/
def f_Shares_tellOff (p1 : Int) (σ : xSt) : Option (xSt) :=
  xbR (f_Table_shareBelow 0 σ) fun r1 =>
  f_Shares_tellOff_13 1000000 p1 r1 0 0 σ
theorem r_Shares_tellOff_13 : ∀ (n : Nat) {l1 : Int} {l3 : Int} {l5 : Int} {l7 : Int} {σ : xSt} {r : xSt}, f_Shares_tellOff_13 n l1 l3 l5 l7 σ = some r → Run 5 6 0 kX6_tellOff (13, [some (vR 7), some (vI l1), some (vR 95), some (vL l3), none, some (vL l5), none, some (vI l7)], [], σ) (tV r) := by
  intro n
  induction n with
  | zero =>
    intro _ _ _ _ _ _ h
    exact nomatch (show (none : Option (xSt)) = some _ from h)
  | succ n ih =>
    intro l1 l3 l5 l7 σ r hf
    unfold f_Shares_tellOff_13 at hf
    refine run_seg (k := 4) (s' := (if l7 < σ 7 2 then (22, [some (vR 7), some (vI l1), some (vR 95), some (vL l3), none, some (vL l5), none, some (vI l7)], [], σ) else (56, [some (vR 7), some (vI l1), some (vR 95), some (vL l3), none, some (vL l5), none, some (vI l7)], [], σ))) rfl ?_
    refine run_ite hf (fun _ hf => ?_) (fun _ hf => ?_)
    · refine run_seg (k := 4) (s' := (28, [some (vR 7), some (vI l1), some (vR 95), some (vL l3), none, some (vL l5), none, some (vI l7)], [vI l7, vI l1, vR 7, vL l5], σ)) rfl ?_
      refine run_callN (w := fun a => some (vI a)) (m := 78) (as := [vR 7, vI l1, vI l7]) (pc := 31) (ls := [some (vR 7), some (vI l1), some (vR 95), some (vL l3), none, some (vL l5), none, some (vI l7)]) (st' := [vL l5]) (σ := σ) hf rfl (fun _ h => (c_Shares_nearestRows h).mono (by decide)) (fun r2 hf => ?_)
      refine run_seg (k := 5) (s' := (37, [some (vR 7), some (vI l1), some (vR 95), some (vL l3), none, some (vL l5), none, some (vI l7)], [vI l7, vR 7, vL (w64 (r2 * l3)), vL l5], σ)) rfl ?_
      refine run_callN (w := fun a => some (vI a)) (m := 87) (as := [vR 7, vI l7]) (pc := 40) (ls := [some (vR 7), some (vI l1), some (vR 95), some (vL l3), none, some (vL l5), none, some (vI l7)]) (st' := [vL (w64 (r2 * l3)), vL l5]) (σ := σ) hf rfl (fun _ h => (c_Table_shareAbove h).mono (by decide)) (fun r3 hf => ?_)
      refine run_seg (k := 7) (s' := (50, [some (vR 7), some (vI l1), some (vR 95), some (vL l3), none, some (vL (w64 (l5 + (xlabs (w64 ((w64 (r2 * l3)) - (xlshl r3 l1))))))), none, some (vI l7)], [], σ)) rfl ?_
      refine run_let (fun x4 => (50, [some (vR 7), some (vI l1), some (vR 95), some (vL l3), none, some (vL x4), none, some (vI l7)], [], σ)) hf (fun x4 hf => ?_)
      refine run_seg (k := 1) (s' := (53, [some (vR 7), some (vI l1), some (vR 95), some (vL l3), none, some (vL x4), none, some (vI (w32 (l7 + 1)))], [], σ)) rfl ?_
      refine run_let (fun x5 => (53, [some (vR 7), some (vI l1), some (vR 95), some (vL l3), none, some (vL x4), none, some (vI x5)], [], σ)) hf (fun x5 hf => ?_)
      refine run_seg (k := 1) (s' := (13, [some (vR 7), some (vI l1), some (vR 95), some (vL l3), none, some (vL x4), none, some (vI x5)], [], σ)) rfl ?_
      exact ih hf
    · refine run_seg (k := 7) (s' := (64, [some (vR 7), some (vI l1), some (vR 95), some (vL l3), none, some (vL l5), none, some (vI l7)], [vL (xlshl l3 (w32 (l1 + 1))), vL l5, vR 95], σ)) rfl ?_
      refine run_callW (w := fun a => some (vI a)) (m := 28) (as := [vR 95, vL l5, vL (xlshl l3 (w32 (l1 + 1)))]) (pc := 67) (ls := [some (vR 7), some (vI l1), some (vR 95), some (vL l3), none, some (vL l5), none, some (vI l7)]) (st' := []) (σ := σ) hf rfl (fun _ _ h => (c_Fraction_put_95 h).mono (by decide)) (fun r6 σ7 hf => ?_)
      refine run_seg (k := 1) (s' := (68, [some (vR 7), some (vI l1), some (vR 95), some (vL l3), none, some (vL l5), none, some (vI l7)], [], σ7)) rfl ?_
      exact run_ret hf rfl
theorem c_Shares_tellOff {p1 : Int} {σ : xSt} {r : xSt} (hf : f_Shares_tellOff p1 σ = some r) : Call (5 + 1) 79 [vR 7, vI p1, vR 95] σ (tV r).1 (tV r).2 := by
  unfold f_Shares_tellOff at hf
  refine call_of (own := 6) (rk := 0) (cd := kX6_tellOff) (ls := [some (vR 7), some (vI p1), some (vR 95), none, none, none, none, none]) (rT := tV) rfl rfl rfl rfl rfl ?_
  refine run_seg (k := 2) (s' := (2, [some (vR 7), some (vI p1), some (vR 95), none, none, none, none, none], [vI 0, vR 7], σ)) rfl ?_
  refine run_callN (w := fun a => some (vI a)) (m := 88) (as := [vR 7, vI 0]) (pc := 5) (ls := [some (vR 7), some (vI p1), some (vR 95), none, none, none, none, none]) (st' := []) (σ := σ) hf rfl (fun _ h => (c_Table_shareBelow h).mono (by decide)) (fun r1 hf => ?_)
  refine run_seg (k := 6) (s' := (13, [some (vR 7), some (vI p1), some (vR 95), some (vL r1), none, some (vL 0), none, some (vI 0)], [], σ)) rfl ?_
  exact r_Shares_tellOff_13 1000000 hf
/-- BentPenny.off(II)J -/
def f_X_off (p1 : Int) (p2 : Int) (σ : xSt) : Option (Option Int × xSt) :=
  xbR (f_X_isWithin p1 21 σ) fun r1 =>
  if r1 = 0 then (some (none, σ))
  else (xbR (f_X_isWithin p2 2 σ) fun r2 =>
  if r2 = 0 then (some (none, σ))
  else (xbR (f_Shares_areTold σ) fun r3 =>
  if r3 = 0 then (some (none, σ))
  else (xbR (f_Shares_tellOff p1 σ) fun σ4 =>
  xbR (f_Fraction_part 95 p2 σ4) fun r5 =>
  some (some r5, σ4))))
theorem c_X_off {p1 : Int} {p2 : Int} {σ : xSt} {r : Option Int × xSt} (hf : f_X_off p1 p2 σ = some r) : Call (6 + 1) 184 [vR 0, vI p1, vI p2] σ (tXL r).1 (tXL r).2 := by
  unfold f_X_off at hf
  refine call_of (own := 11) (rk := 3) (cd := kX11_off) (ls := [some (vR 0), some (vI p1), some (vI p2)]) (rT := tXL) rfl rfl rfl rfl rfl ?_
  refine run_seg (k := 2) (s' := (3, [some (vR 0), some (vI p1), some (vI p2)], [vI 21, vI p1], σ)) rfl ?_
  refine run_callN (w := fun a => some (vI a)) (m := 207) (as := [vI p1, vI 21]) (pc := 6) (ls := [some (vR 0), some (vI p1), some (vI p2)]) (st' := []) (σ := σ) hf rfl (fun _ h => (c_X_isWithin h).mono (by decide)) (fun r1 hf => ?_)
  refine run_seg (k := 1) (s' := (if r1 = 0 then (30, [some (vR 0), some (vI p1), some (vI p2)], [], σ) else (9, [some (vR 0), some (vI p1), some (vI p2)], [], σ))) rfl ?_
  refine run_ite hf (fun _ hf => ?_) (fun _ hf => ?_)
  · exact run_ret hf rfl
  · refine run_seg (k := 2) (s' := (11, [some (vR 0), some (vI p1), some (vI p2)], [vI 2, vI p2], σ)) rfl ?_
    refine run_callN (w := fun a => some (vI a)) (m := 207) (as := [vI p2, vI 2]) (pc := 14) (ls := [some (vR 0), some (vI p1), some (vI p2)]) (st' := []) (σ := σ) hf rfl (fun _ h => (c_X_isWithin h).mono (by decide)) (fun r2 hf => ?_)
    refine run_seg (k := 1) (s' := (if r2 = 0 then (30, [some (vR 0), some (vI p1), some (vI p2)], [], σ) else (17, [some (vR 0), some (vI p1), some (vI p2)], [], σ))) rfl ?_
    refine run_ite hf (fun _ hf => ?_) (fun _ hf => ?_)
    · exact run_ret hf rfl
    · refine run_seg (k := 3) (s' := (24, [some (vR 0), some (vI p1), some (vI p2)], [vR 7], σ)) rfl ?_
      refine run_callN (w := fun a => some (vI a)) (m := 72) (as := [vR 7]) (pc := 27) (ls := [some (vR 0), some (vI p1), some (vI p2)]) (st' := []) (σ := σ) hf rfl (fun _ h => (c_Shares_areTold h).mono (by decide)) (fun r3 hf => ?_)
      refine run_seg (k := 1) (s' := (if r3 = 0 then (30, [some (vR 0), some (vI p1), some (vI p2)], [], σ) else (38, [some (vR 0), some (vI p1), some (vI p2)], [], σ))) rfl ?_
      refine run_ite hf (fun _ hf => ?_) (fun _ hf => ?_)
      · exact run_ret hf rfl
      · refine run_seg (k := 6) (s' := (50, [some (vR 0), some (vI p1), some (vI p2)], [vR 95, vI p1, vR 7], σ)) rfl ?_
        refine run_callV (m := 79) (as := [vR 7, vI p1, vR 95]) (pc := 53) (ls := [some (vR 0), some (vI p1), some (vI p2)]) (st' := []) (σ := σ) hf rfl (fun _ h => (c_Shares_tellOff h).mono (by decide)) (fun σ4 hf => ?_)
        refine run_seg (k := 3) (s' := (58, [some (vR 0), some (vI p1), some (vI p2)], [vI p2, vR 95], σ4)) rfl ?_
        refine run_callN (w := fun a => some (vL a)) (m := 29) (as := [vR 95, vI p2]) (pc := 61) (ls := [some (vR 0), some (vI p1), some (vI p2)]) (st' := []) (σ := σ4) hf rfl (fun _ h => (c_Fraction_part_95 h).mono (by decide)) (fun r5 hf => ?_)
        exact run_ret hf rfl
def f_Table_sidesAlike_61 (k21 : (Int → Int → Int → xSt → Option (Int))) (l1 : Int) (l3 : Int) (σ : xSt) : Option (Int) :=
  xbR (f_Table_sidesOf l3 σ) fun r3 =>
  xlet (w32 (l3 + 1)) fun x4 =>
  k21 l1 r3 x4 σ
def f_Table_sidesAlike_21 : Nat → Int → Int → Int → xSt → Option (Int)
  | 0, _, _, _, _ => none
  | n + 1, l1, l2, l3, σ =>
    if l3 < σ 7 1 then (if xand (xshr l1 l3) 1 = 1 then (if l3 = σ 7 3 then (some 0)
    else (if l2 = 0 then (f_Table_sidesAlike_61 (fun z0 z1 z2 sz => f_Table_sidesAlike_21 n z0 z1 z2 sz) l1 l3 σ)
    else (xbR (f_Table_sidesOf l3 σ) fun r1 =>
    if l2 = r1 then (f_Table_sidesAlike_61 (fun z0 z1 z2 sz => f_Table_sidesAlike_21 n z0 z1 z2 sz) l1 l3 σ)
    else (some 0))))
    else (xlet (w32 (l3 + 1)) fun x2 =>
    f_Table_sidesAlike_21 n l1 l2 x2 σ))
    else (some l2)
/-- BentPenny$Table.sidesAlike(I)I -/
def f_Table_sidesAlike (p1 : Int) (σ : xSt) : Option (Int) :=
  if p1 < 1 then (some 0)
  else (if p1 < xshl 1 (σ 7 1) then (f_Table_sidesAlike_21 1000000 p1 0 0 σ)
  else (some 0))
theorem r_Table_sidesAlike_61 {k21 : (Int → Int → Int → xSt → Option (Int))} (hk21 : ∀ {l1 : Int} {l2 : Int} {l3 : Int} {σ : xSt} {r : Int}, k21 l1 l2 l3 σ = some r → Run 2 8 1 kX8_sidesAlike (21, [some (vR 7), some (vI l1), some (vI l2), some (vI l3)], [], σ) ((tI σ) r)) {l1 : Int} {l3 : Int} {g2 : Option xV} {σ : xSt} {r : Int} (hf : f_Table_sidesAlike_61 k21 l1 l3 σ = some r) : Run 2 8 1 kX8_sidesAlike (61, [some (vR 7), some (vI l1), g2, some (vI l3)], [], σ) ((tI σ) r) := by
  unfold f_Table_sidesAlike_61 at hf
  refine run_seg (k := 2) (s' := (63, [some (vR 7), some (vI l1), g2, some (vI l3)], [vI l3, vR 7], σ)) rfl ?_
  refine run_callN (w := fun a => some (vI a)) (m := 89) (as := [vR 7, vI l3]) (pc := 66) (ls := [some (vR 7), some (vI l1), g2, some (vI l3)]) (st' := []) (σ := σ) hf rfl (fun _ h => (c_Table_sidesOf h).mono (by decide)) (fun r3 hf => ?_)
  refine run_seg (k := 2) (s' := (70, [some (vR 7), some (vI l1), some (vI r3), some (vI (w32 (l3 + 1)))], [], σ)) rfl ?_
  refine run_let (fun x4 => (70, [some (vR 7), some (vI l1), some (vI r3), some (vI x4)], [], σ)) hf (fun x4 hf => ?_)
  refine run_seg (k := 1) (s' := (21, [some (vR 7), some (vI l1), some (vI r3), some (vI x4)], [], σ)) rfl ?_
  exact hk21 hf
theorem r_Table_sidesAlike_21 : ∀ (n : Nat) {l1 : Int} {l2 : Int} {l3 : Int} {σ : xSt} {r : Int}, f_Table_sidesAlike_21 n l1 l2 l3 σ = some r → Run 2 8 1 kX8_sidesAlike (21, [some (vR 7), some (vI l1), some (vI l2), some (vI l3)], [], σ) ((tI σ) r) := by
  intro n
  induction n with
  | zero =>
    intro _ _ _ _ _ h
    exact nomatch (show (none : Option (Int)) = some _ from h)
  | succ n ih =>
    intro l1 l2 l3 σ r hf
    unfold f_Table_sidesAlike_21 at hf
    refine run_seg (k := 4) (s' := (if l3 < σ 7 1 then (29, [some (vR 7), some (vI l1), some (vI l2), some (vI l3)], [], σ) else (73, [some (vR 7), some (vI l1), some (vI l2), some (vI l3)], [], σ))) rfl ?_
    refine run_ite hf (fun _ hf => ?_) (fun _ hf => ?_)
    · refine run_seg (k := 7) (s' := (if xand (xshr l1 l3) 1 = 1 then (38, [some (vR 7), some (vI l1), some (vI l2), some (vI l3)], [], σ) else (67, [some (vR 7), some (vI l1), some (vI l2), some (vI l3)], [], σ))) rfl ?_
      refine run_ite hf (fun _ hf => ?_) (fun _ hf => ?_)
      · refine run_seg (k := 4) (s' := (if l3 = σ 7 3 then (59, [some (vR 7), some (vI l1), some (vI l2), some (vI l3)], [], σ) else (46, [some (vR 7), some (vI l1), some (vI l2), some (vI l3)], [], σ))) rfl ?_
        refine run_ite hf (fun _ hf => ?_) (fun _ hf => ?_)
        · refine run_seg (k := 1) (s' := (60, [some (vR 7), some (vI l1), some (vI l2), some (vI l3)], [vI 0], σ)) rfl ?_
          exact run_ret hf rfl
        · refine run_seg (k := 2) (s' := (if l2 = 0 then (61, [some (vR 7), some (vI l1), some (vI l2), some (vI l3)], [], σ) else (50, [some (vR 7), some (vI l1), some (vI l2), some (vI l3)], [], σ))) rfl ?_
          refine run_ite hf (fun _ hf => ?_) (fun _ hf => ?_)
          · exact r_Table_sidesAlike_61 (fun h => ih h) hf
          · refine run_seg (k := 3) (s' := (53, [some (vR 7), some (vI l1), some (vI l2), some (vI l3)], [vI l3, vR 7, vI l2], σ)) rfl ?_
            refine run_callN (w := fun a => some (vI a)) (m := 89) (as := [vR 7, vI l3]) (pc := 56) (ls := [some (vR 7), some (vI l1), some (vI l2), some (vI l3)]) (st' := [vI l2]) (σ := σ) hf rfl (fun _ h => (c_Table_sidesOf h).mono (by decide)) (fun r1 hf => ?_)
            refine run_seg (k := 1) (s' := (if l2 = r1 then (61, [some (vR 7), some (vI l1), some (vI l2), some (vI l3)], [], σ) else (59, [some (vR 7), some (vI l1), some (vI l2), some (vI l3)], [], σ))) rfl ?_
            refine run_ite hf (fun _ hf => ?_) (fun _ hf => ?_)
            · exact r_Table_sidesAlike_61 (fun h => ih h) hf
            · refine run_seg (k := 1) (s' := (60, [some (vR 7), some (vI l1), some (vI l2), some (vI l3)], [vI 0], σ)) rfl ?_
              exact run_ret hf rfl
      · refine run_seg (k := 1) (s' := (70, [some (vR 7), some (vI l1), some (vI l2), some (vI (w32 (l3 + 1)))], [], σ)) rfl ?_
        refine run_let (fun x2 => (70, [some (vR 7), some (vI l1), some (vI l2), some (vI x2)], [], σ)) hf (fun x2 hf => ?_)
        refine run_seg (k := 1) (s' := (21, [some (vR 7), some (vI l1), some (vI l2), some (vI x2)], [], σ)) rfl ?_
        exact ih hf
    · refine run_seg (k := 1) (s' := (74, [some (vR 7), some (vI l1), some (vI l2), some (vI l3)], [vI l2], σ)) rfl ?_
      exact run_ret hf rfl
theorem c_Table_sidesAlike {p1 : Int} {σ : xSt} {r : Int} (hf : f_Table_sidesAlike p1 σ = some r) : Call (2 + 1) 98 [vR 7, vI p1] σ ((tI σ) r).1 ((tI σ) r).2 := by
  unfold f_Table_sidesAlike at hf
  refine call_of (own := 8) (rk := 1) (cd := kX8_sidesAlike) (ls := [some (vR 7), some (vI p1), none, none]) (rT := (tI σ)) rfl rfl rfl rfl rfl ?_
  refine run_seg (k := 3) (s' := (if p1 < 1 then (15, [some (vR 7), some (vI p1), none, none], [], σ) else (5, [some (vR 7), some (vI p1), none, none], [], σ))) rfl ?_
  refine run_ite hf (fun _ hf => ?_) (fun _ hf => ?_)
  · refine run_seg (k := 1) (s' := (16, [some (vR 7), some (vI p1), none, none], [vI 0], σ)) rfl ?_
    exact run_ret hf rfl
  · refine run_seg (k := 6) (s' := (if p1 < xshl 1 (σ 7 1) then (17, [some (vR 7), some (vI p1), none, none], [], σ) else (15, [some (vR 7), some (vI p1), none, none], [], σ))) rfl ?_
    refine run_ite hf (fun _ hf => ?_) (fun _ hf => ?_)
    · refine run_seg (k := 4) (s' := (21, [some (vR 7), some (vI p1), some (vI 0), some (vI 0)], [], σ)) rfl ?_
      exact r_Table_sidesAlike_21 1000000 hf
    · refine run_seg (k := 1) (s' := (16, [some (vR 7), some (vI p1), none, none], [vI 0], σ)) rfl ?_
      exact run_ret hf rfl
def f_Odds_mixIn_87 (k41 : (Int → Int → Int → xSt → Option (xSt))) (k57 : (Int → Int → Int → Int → xSt → Option (xSt))) (l2 : Int) (l3 : Int) (l4 : Int) (l5 : Int) (s0 : Int) (σ : xSt) : Option (xSt) :=
  xbR (f_X_isWithin s0 6 σ) fun r5 =>
  if r5 = 0 then (xlet (w32 (l5 + 1)) fun x6 =>
  k57 l2 l3 l4 x6 σ)
  else (if 0 ≤ s0 ∧ s0 < 6 then (
  if 0 ≤ l4 ∧ l4 < 6 then (
  xbR (f_Table_partsOf l2 l5 σ) fun r7 =>
  if 0 ≤ s0 ∧ s0 < 6 then (
  xlet (upS σ 93 s0.toNat (w64 ((σ 93 s0.toNat) + (w64 ((σ 94 l4.toNat) * r7))))) fun σ8 =>
  xlet (w32 (l5 + 1)) fun x9 =>
  k57 l2 l3 l4 x9 σ8) else none) else none) else none)
def f_Odds_mixIn_57 (k41 : (Int → Int → Int → xSt → Option (xSt))) : Nat → Int → Int → Int → Int → xSt → Option (xSt)
  | 0, _, _, _, _, _ => none
  | n + 1, l2, l3, l4, l5, σ =>
    if l5 < l3 then (if w32 (l4 + l5) < l3 then (f_Odds_mixIn_87 (k41) (fun z0 z1 z2 z3 sz => f_Odds_mixIn_57 k41 n z0 z1 z2 z3 sz) l2 l3 l4 l5 (w32 (l4 + l5)) σ)
    else (f_Odds_mixIn_87 (k41) (fun z0 z1 z2 z3 sz => f_Odds_mixIn_57 k41 n z0 z1 z2 z3 sz) l2 l3 l4 l5 (w32 ((w32 (l4 + l5)) - l3)) σ))
    else (xlet (w32 (l4 + 1)) fun x4 =>
    k41 l2 l3 x4 σ)
def f_Odds_mixIn_41 : Nat → Int → Int → Int → xSt → Option (xSt)
  | 0, _, _, _, _ => none
  | n + 1, l2, l3, l4, σ =>
    if l4 < l3 then (if l4 < 6 then (f_Odds_mixIn_57 (fun z0 z1 z2 sz => f_Odds_mixIn_41 n z0 z1 z2 sz) 1000000 l2 l3 l4 0 σ)
    else (some σ))
    else (some σ)
def f_Odds_mixIn_3 : Nat → Int → Int → Int → xSt → Option (xSt)
  | 0, _, _, _, _ => none
  | n + 1, l2, l3, l4, σ =>
    if l4 < 6 then (if 0 ≤ l4 ∧ l4 < 6 then (
    if 0 ≤ l4 ∧ l4 < 6 then (
    xlet (upS σ 94 l4.toNat (σ 93 l4.toNat)) fun σ1 =>
    if 0 ≤ l4 ∧ l4 < 6 then (
    xlet (upS σ1 93 l4.toNat 0) fun σ2 =>
    xlet (w32 (l4 + 1)) fun x3 =>
    f_Odds_mixIn_3 n l2 l3 x3 σ2) else none) else none) else none)
    else (f_Odds_mixIn_41 1000000 l2 l3 0 σ)
/-- BentPenny$Odds.mixIn(LBentPenny$Table;II)V -/
def f_Odds_mixIn (p2 : Int) (p3 : Int) (σ : xSt) : Option (xSt) :=
  f_Odds_mixIn_3 1000000 p2 p3 0 σ
theorem r_Odds_mixIn_87 {k41 : (Int → Int → Int → xSt → Option (xSt))} (hk41 : ∀ {l2 : Int} {l3 : Int} {l4 : Int} {g5 : Option xV} {g6 : Option xV} {σ : xSt} {r : xSt}, k41 l2 l3 l4 σ = some r → Run 2 4 0 kX4_mixIn (41, [some (vR 87), some (vR 7), some (vI l2), some (vI l3), some (vI l4), g5, g6], [], σ) (tV r)) {k57 : (Int → Int → Int → Int → xSt → Option (xSt))} (hk57 : ∀ {l2 : Int} {l3 : Int} {l4 : Int} {l5 : Int} {g6 : Option xV} {σ : xSt} {r : xSt}, k57 l2 l3 l4 l5 σ = some r → Run 2 4 0 kX4_mixIn (57, [some (vR 87), some (vR 7), some (vI l2), some (vI l3), some (vI l4), some (vI l5), g6], [], σ) (tV r)) {l2 : Int} {l3 : Int} {l4 : Int} {l5 : Int} {s0 : Int} {g6 : Option xV} {σ : xSt} {r : xSt} (hf : f_Odds_mixIn_87 k41 k57 l2 l3 l4 l5 s0 σ = some r) : Run 2 4 0 kX4_mixIn (87, [some (vR 87), some (vR 7), some (vI l2), some (vI l3), some (vI l4), some (vI l5), g6], [vI s0], σ) (tV r) := by
  unfold f_Odds_mixIn_87 at hf
  refine run_seg (k := 3) (s' := (93, [some (vR 87), some (vR 7), some (vI l2), some (vI l3), some (vI l4), some (vI l5), some (vI s0)], [vI 6, vI s0], σ)) rfl ?_
  refine run_callN (w := fun a => some (vI a)) (m := 207) (as := [vI s0, vI 6]) (pc := 96) (ls := [some (vR 87), some (vR 7), some (vI l2), some (vI l3), some (vI l4), some (vI l5), some (vI s0)]) (st' := []) (σ := σ) hf rfl (fun _ h => (c_X_isWithin h).mono (by decide)) (fun r5 hf => ?_)
  refine run_seg (k := 1) (s' := (if r5 = 0 then (125, [some (vR 87), some (vR 7), some (vI l2), some (vI l3), some (vI l4), some (vI l5), some (vI s0)], [], σ) else (99, [some (vR 87), some (vR 7), some (vI l2), some (vI l3), some (vI l4), some (vI l5), some (vI s0)], [], σ))) rfl ?_
  refine run_ite hf (fun _ hf => ?_) (fun _ hf => ?_)
  · refine run_seg (k := 1) (s' := (128, [some (vR 87), some (vR 7), some (vI l2), some (vI l3), some (vI l4), some (vI (w32 (l5 + 1))), some (vI s0)], [], σ)) rfl ?_
    refine run_let (fun x6 => (128, [some (vR 87), some (vR 7), some (vI l2), some (vI l3), some (vI l4), some (vI x6), some (vI s0)], [], σ)) hf (fun x6 hf => ?_)
    refine run_seg (k := 1) (s' := (57, [some (vR 87), some (vR 7), some (vI l2), some (vI l3), some (vI l4), some (vI x6), some (vI s0)], [], σ)) rfl ?_
    exact hk57 hf
  · refine run_seg (k := 4) (s' := (106, [some (vR 87), some (vR 7), some (vI l2), some (vI l3), some (vI l4), some (vI l5), some (vI s0)], [vI s0, vR 93, vI s0, vR 93], σ)) rfl ?_
    refine run_guard (s' := (107, [some (vR 87), some (vR 7), some (vI l2), some (vI l3), some (vI l4), some (vI l5), some (vI s0)], [vL (σ 93 s0.toNat), vI s0, vR 93], σ)) hf rfl (fun hf => ?_)
    refine run_seg (k := 3) (s' := (113, [some (vR 87), some (vR 7), some (vI l2), some (vI l3), some (vI l4), some (vI l5), some (vI s0)], [vI l4, vR 94, vL (σ 93 s0.toNat), vI s0, vR 93], σ)) rfl ?_
    refine run_guard (s' := (114, [some (vR 87), some (vR 7), some (vI l2), some (vI l3), some (vI l4), some (vI l5), some (vI s0)], [vL (σ 94 l4.toNat), vL (σ 93 s0.toNat), vI s0, vR 93], σ)) hf rfl (fun hf => ?_)
    refine run_seg (k := 3) (s' := (118, [some (vR 87), some (vR 7), some (vI l2), some (vI l3), some (vI l4), some (vI l5), some (vI s0)], [vI l5, vI l2, vR 7, vL (σ 94 l4.toNat), vL (σ 93 s0.toNat), vI s0, vR 93], σ)) rfl ?_
    refine run_callN (w := fun a => some (vI a)) (m := 91) (as := [vR 7, vI l2, vI l5]) (pc := 121) (ls := [some (vR 87), some (vR 7), some (vI l2), some (vI l3), some (vI l4), some (vI l5), some (vI s0)]) (st' := [vL (σ 94 l4.toNat), vL (σ 93 s0.toNat), vI s0, vR 93]) (σ := σ) hf rfl (fun _ h => (c_Table_partsOf h).mono (by decide)) (fun r7 hf => ?_)
    refine run_seg (k := 3) (s' := (124, [some (vR 87), some (vR 7), some (vI l2), some (vI l3), some (vI l4), some (vI l5), some (vI s0)], [vL (w64 ((σ 93 s0.toNat) + (w64 ((σ 94 l4.toNat) * r7)))), vI s0, vR 93], σ)) rfl ?_
    refine run_guard (s' := (125, [some (vR 87), some (vR 7), some (vI l2), some (vI l3), some (vI l4), some (vI l5), some (vI s0)], [], upS σ 93 s0.toNat (w64 ((σ 93 s0.toNat) + (w64 ((σ 94 l4.toNat) * r7)))))) hf rfl (fun hf => ?_)
    refine run_let (fun σ8 => (125, [some (vR 87), some (vR 7), some (vI l2), some (vI l3), some (vI l4), some (vI l5), some (vI s0)], [], σ8)) hf (fun σ8 hf => ?_)
    refine run_seg (k := 1) (s' := (128, [some (vR 87), some (vR 7), some (vI l2), some (vI l3), some (vI l4), some (vI (w32 (l5 + 1))), some (vI s0)], [], σ8)) rfl ?_
    refine run_let (fun x9 => (128, [some (vR 87), some (vR 7), some (vI l2), some (vI l3), some (vI l4), some (vI x9), some (vI s0)], [], σ8)) hf (fun x9 hf => ?_)
    refine run_seg (k := 1) (s' := (57, [some (vR 87), some (vR 7), some (vI l2), some (vI l3), some (vI l4), some (vI x9), some (vI s0)], [], σ8)) rfl ?_
    exact hk57 hf
theorem r_Odds_mixIn_57 {k41 : (Int → Int → Int → xSt → Option (xSt))} (hk41 : ∀ {l2 : Int} {l3 : Int} {l4 : Int} {g5 : Option xV} {g6 : Option xV} {σ : xSt} {r : xSt}, k41 l2 l3 l4 σ = some r → Run 2 4 0 kX4_mixIn (41, [some (vR 87), some (vR 7), some (vI l2), some (vI l3), some (vI l4), g5, g6], [], σ) (tV r)) : ∀ (n : Nat) {l2 : Int} {l3 : Int} {l4 : Int} {l5 : Int} {g6 : Option xV} {σ : xSt} {r : xSt}, f_Odds_mixIn_57 k41 n l2 l3 l4 l5 σ = some r → Run 2 4 0 kX4_mixIn (57, [some (vR 87), some (vR 7), some (vI l2), some (vI l3), some (vI l4), some (vI l5), g6], [], σ) (tV r) := by
  intro n
  induction n with
  | zero =>
    intro _ _ _ _ _ _ _ h
    exact nomatch (show (none : Option (xSt)) = some _ from h)
  | succ n ih =>
    intro l2 l3 l4 l5 g6 σ r hf
    unfold f_Odds_mixIn_57 at hf
    refine run_seg (k := 3) (s' := (if l5 < l3 then (63, [some (vR 87), some (vR 7), some (vI l2), some (vI l3), some (vI l4), some (vI l5), g6], [], σ) else (131, [some (vR 87), some (vR 7), some (vI l2), some (vI l3), some (vI l4), some (vI l5), g6], [], σ))) rfl ?_
    refine run_ite hf (fun _ hf => ?_) (fun _ hf => ?_)
    · refine run_seg (k := 5) (s' := (if w32 (l4 + l5) < l3 then (72, [some (vR 87), some (vR 7), some (vI l2), some (vI l3), some (vI l4), some (vI l5), g6], [], σ) else (80, [some (vR 87), some (vR 7), some (vI l2), some (vI l3), some (vI l4), some (vI l5), g6], [], σ))) rfl ?_
      refine run_ite hf (fun _ hf => ?_) (fun _ hf => ?_)
      · refine run_seg (k := 4) (s' := (87, [some (vR 87), some (vR 7), some (vI l2), some (vI l3), some (vI l4), some (vI l5), g6], [vI (w32 (l4 + l5))], σ)) rfl ?_
        exact r_Odds_mixIn_87 (hk41) (fun h => ih h) hf
      · refine run_seg (k := 5) (s' := (87, [some (vR 87), some (vR 7), some (vI l2), some (vI l3), some (vI l4), some (vI l5), g6], [vI (w32 ((w32 (l4 + l5)) - l3))], σ)) rfl ?_
        exact r_Odds_mixIn_87 (hk41) (fun h => ih h) hf
    · refine run_seg (k := 1) (s' := (134, [some (vR 87), some (vR 7), some (vI l2), some (vI l3), some (vI (w32 (l4 + 1))), some (vI l5), g6], [], σ)) rfl ?_
      refine run_let (fun x4 => (134, [some (vR 87), some (vR 7), some (vI l2), some (vI l3), some (vI x4), some (vI l5), g6], [], σ)) hf (fun x4 hf => ?_)
      refine run_seg (k := 1) (s' := (41, [some (vR 87), some (vR 7), some (vI l2), some (vI l3), some (vI x4), some (vI l5), g6], [], σ)) rfl ?_
      exact hk41 hf
theorem r_Odds_mixIn_41 : ∀ (n : Nat) {l2 : Int} {l3 : Int} {l4 : Int} {g5 : Option xV} {g6 : Option xV} {σ : xSt} {r : xSt}, f_Odds_mixIn_41 n l2 l3 l4 σ = some r → Run 2 4 0 kX4_mixIn (41, [some (vR 87), some (vR 7), some (vI l2), some (vI l3), some (vI l4), g5, g6], [], σ) (tV r) := by
  intro n
  induction n with
  | zero =>
    intro _ _ _ _ _ _ _ h
    exact nomatch (show (none : Option (xSt)) = some _ from h)
  | succ n ih =>
    intro l2 l3 l4 g5 g6 σ r hf
    unfold f_Odds_mixIn_41 at hf
    refine run_seg (k := 3) (s' := (if l4 < l3 then (47, [some (vR 87), some (vR 7), some (vI l2), some (vI l3), some (vI l4), g5, g6], [], σ) else (137, [some (vR 87), some (vR 7), some (vI l2), some (vI l3), some (vI l4), g5, g6], [], σ))) rfl ?_
    refine run_ite hf (fun _ hf => ?_) (fun _ hf => ?_)
    · refine run_seg (k := 3) (s' := (if l4 < 6 then (54, [some (vR 87), some (vR 7), some (vI l2), some (vI l3), some (vI l4), g5, g6], [], σ) else (137, [some (vR 87), some (vR 7), some (vI l2), some (vI l3), some (vI l4), g5, g6], [], σ))) rfl ?_
      refine run_ite hf (fun _ hf => ?_) (fun _ hf => ?_)
      · refine run_seg (k := 2) (s' := (57, [some (vR 87), some (vR 7), some (vI l2), some (vI l3), some (vI l4), some (vI 0), g6], [], σ)) rfl ?_
        exact r_Odds_mixIn_57 (fun h => ih h) 1000000 hf
      · exact run_ret hf rfl
    · exact run_ret hf rfl
theorem r_Odds_mixIn_3 : ∀ (n : Nat) {l2 : Int} {l3 : Int} {l4 : Int} {g5 : Option xV} {g6 : Option xV} {σ : xSt} {r : xSt}, f_Odds_mixIn_3 n l2 l3 l4 σ = some r → Run 2 4 0 kX4_mixIn (3, [some (vR 87), some (vR 7), some (vI l2), some (vI l3), some (vI l4), g5, g6], [], σ) (tV r) := by
  intro n
  induction n with
  | zero =>
    intro _ _ _ _ _ _ _ h
    exact nomatch (show (none : Option (xSt)) = some _ from h)
  | succ n ih =>
    intro l2 l3 l4 g5 g6 σ r hf
    unfold f_Odds_mixIn_3 at hf
    refine run_seg (k := 3) (s' := (if l4 < 6 then (10, [some (vR 87), some (vR 7), some (vI l2), some (vI l3), some (vI l4), g5, g6], [], σ) else (38, [some (vR 87), some (vR 7), some (vI l2), some (vI l3), some (vI l4), g5, g6], [], σ))) rfl ?_
    refine run_ite hf (fun _ hf => ?_) (fun _ hf => ?_)
    · refine run_seg (k := 6) (s' := (22, [some (vR 87), some (vR 7), some (vI l2), some (vI l3), some (vI l4), g5, g6], [vI l4, vR 93, vI l4, vR 94], σ)) rfl ?_
      refine run_guard (s' := (23, [some (vR 87), some (vR 7), some (vI l2), some (vI l3), some (vI l4), g5, g6], [vL (σ 93 l4.toNat), vI l4, vR 94], σ)) hf rfl (fun hf => ?_)
      refine run_guard (s' := (24, [some (vR 87), some (vR 7), some (vI l2), some (vI l3), some (vI l4), g5, g6], [], upS σ 94 l4.toNat (σ 93 l4.toNat))) hf rfl (fun hf => ?_)
      refine run_let (fun σ1 => (24, [some (vR 87), some (vR 7), some (vI l2), some (vI l3), some (vI l4), g5, g6], [], σ1)) hf (fun σ1 hf => ?_)
      refine run_seg (k := 4) (s' := (31, [some (vR 87), some (vR 7), some (vI l2), some (vI l3), some (vI l4), g5, g6], [vL 0, vI l4, vR 93], σ1)) rfl ?_
      refine run_guard (s' := (32, [some (vR 87), some (vR 7), some (vI l2), some (vI l3), some (vI l4), g5, g6], [], upS σ1 93 l4.toNat 0)) hf rfl (fun hf => ?_)
      refine run_let (fun σ2 => (32, [some (vR 87), some (vR 7), some (vI l2), some (vI l3), some (vI l4), g5, g6], [], σ2)) hf (fun σ2 hf => ?_)
      refine run_seg (k := 1) (s' := (35, [some (vR 87), some (vR 7), some (vI l2), some (vI l3), some (vI (w32 (l4 + 1))), g5, g6], [], σ2)) rfl ?_
      refine run_let (fun x3 => (35, [some (vR 87), some (vR 7), some (vI l2), some (vI l3), some (vI x3), g5, g6], [], σ2)) hf (fun x3 hf => ?_)
      refine run_seg (k := 1) (s' := (3, [some (vR 87), some (vR 7), some (vI l2), some (vI l3), some (vI x3), g5, g6], [], σ2)) rfl ?_
      exact ih hf
    · refine run_seg (k := 2) (s' := (41, [some (vR 87), some (vR 7), some (vI l2), some (vI l3), some (vI 0), g5, g6], [], σ)) rfl ?_
      exact r_Odds_mixIn_41 1000000 hf
theorem c_Odds_mixIn {p2 : Int} {p3 : Int} {σ : xSt} {r : xSt} (hf : f_Odds_mixIn p2 p3 σ = some r) : Call (2 + 1) 55 [vR 87, vR 7, vI p2, vI p3] σ (tV r).1 (tV r).2 := by
  unfold f_Odds_mixIn at hf
  refine call_of (own := 4) (rk := 0) (cd := kX4_mixIn) (ls := [some (vR 87), some (vR 7), some (vI p2), some (vI p3), none, none, none]) (rT := tV) rfl rfl rfl rfl rfl ?_
  refine run_seg (k := 2) (s' := (3, [some (vR 87), some (vR 7), some (vI p2), some (vI p3), some (vI 0), none, none], [], σ)) rfl ?_
  exact r_Odds_mixIn_3 1000000 hf
def f_Odds_mix_31 (k8 : (Int → Int → Int → xSt → Option (xSt))) (l2 : Int) (l3 : Int) (l4 : Int) (s0 : Int) (s1 : Int) (σ : xSt) : Option (xSt) :=
  if 0 ≤ s1 ∧ s1 < 6 then (
  xlet (upS σ 93 s1.toNat s0) fun σ2 =>
  xlet (w32 (l4 + 1)) fun x3 =>
  k8 l2 l3 x3 σ2) else none
def f_Odds_mix_41 : Nat → Int → Int → Int → xSt → Option (xSt)
  | 0, _, _, _, _ => none
  | n + 1, l2, l3, l4, σ =>
    if l4 < σ 7 1 then (if xand (xshr l2 l4) 1 = 1 then (xbR (f_Table_allParts l4 σ) fun r4 =>
    xlet (upS σ 87 7 (w64 ((σ 87 7) * r4))) fun σ5 =>
    xbR (f_Odds_mixIn l4 l3 σ5) fun σ6 =>
    xlet (w32 (l4 + 1)) fun x7 =>
    f_Odds_mix_41 n l2 l3 x7 σ6)
    else (xlet (w32 (l4 + 1)) fun x8 =>
    f_Odds_mix_41 n l2 l3 x8 σ))
    else (some σ)
def f_Odds_mix_8 : Nat → Int → Int → Int → xSt → Option (xSt)
  | 0, _, _, _, _ => none
  | n + 1, l2, l3, l4, σ =>
    if l4 < 6 then (if l4 = 0 then (f_Odds_mix_31 (fun z0 z1 z2 sz => f_Odds_mix_8 n z0 z1 z2 sz) l2 l3 l4 1 l4 σ)
    else (f_Odds_mix_31 (fun z0 z1 z2 sz => f_Odds_mix_8 n z0 z1 z2 sz) l2 l3 l4 0 l4 σ))
    else (f_Odds_mix_41 1000000 l2 l3 0 σ)
/-- BentPenny$Odds.mix(LBentPenny$Table;II)V -/
def f_Odds_mix (p2 : Int) (p3 : Int) (σ : xSt) : Option (xSt) :=
  xlet (upS σ 87 7 1) fun σ1 =>
  f_Odds_mix_8 1000000 p2 p3 0 σ1
theorem r_Odds_mix_31 {k8 : (Int → Int → Int → xSt → Option (xSt))} (hk8 : ∀ {l2 : Int} {l3 : Int} {l4 : Int} {σ : xSt} {r : xSt}, k8 l2 l3 l4 σ = some r → Run 3 4 0 kX4_mix (8, [some (vR 87), some (vR 7), some (vI l2), some (vI l3), some (vI l4)], [], σ) (tV r)) {l2 : Int} {l3 : Int} {l4 : Int} {s0 : Int} {s1 : Int} {σ : xSt} {r : xSt} (hf : f_Odds_mix_31 k8 l2 l3 l4 s0 s1 σ = some r) : Run 3 4 0 kX4_mix (31, [some (vR 87), some (vR 7), some (vI l2), some (vI l3), some (vI l4)], [vL s0, vI s1, vR 93], σ) (tV r) := by
  unfold f_Odds_mix_31 at hf
  refine run_guard (s' := (32, [some (vR 87), some (vR 7), some (vI l2), some (vI l3), some (vI l4)], [], upS σ 93 s1.toNat s0)) hf rfl (fun hf => ?_)
  refine run_let (fun σ2 => (32, [some (vR 87), some (vR 7), some (vI l2), some (vI l3), some (vI l4)], [], σ2)) hf (fun σ2 hf => ?_)
  refine run_seg (k := 1) (s' := (35, [some (vR 87), some (vR 7), some (vI l2), some (vI l3), some (vI (w32 (l4 + 1)))], [], σ2)) rfl ?_
  refine run_let (fun x3 => (35, [some (vR 87), some (vR 7), some (vI l2), some (vI l3), some (vI x3)], [], σ2)) hf (fun x3 hf => ?_)
  refine run_seg (k := 1) (s' := (8, [some (vR 87), some (vR 7), some (vI l2), some (vI l3), some (vI x3)], [], σ2)) rfl ?_
  exact hk8 hf
theorem r_Odds_mix_41 : ∀ (n : Nat) {l2 : Int} {l3 : Int} {l4 : Int} {σ : xSt} {r : xSt}, f_Odds_mix_41 n l2 l3 l4 σ = some r → Run 3 4 0 kX4_mix (41, [some (vR 87), some (vR 7), some (vI l2), some (vI l3), some (vI l4)], [], σ) (tV r) := by
  intro n
  induction n with
  | zero =>
    intro _ _ _ _ _ h
    exact nomatch (show (none : Option (xSt)) = some _ from h)
  | succ n ih =>
    intro l2 l3 l4 σ r hf
    unfold f_Odds_mix_41 at hf
    refine run_seg (k := 4) (s' := (if l4 < σ 7 1 then (50, [some (vR 87), some (vR 7), some (vI l2), some (vI l3), some (vI l4)], [], σ) else (90, [some (vR 87), some (vR 7), some (vI l2), some (vI l3), some (vI l4)], [], σ))) rfl ?_
    refine run_ite hf (fun _ hf => ?_) (fun _ hf => ?_)
    · refine run_seg (k := 7) (s' := (if xand (xshr l2 l4) 1 = 1 then (60, [some (vR 87), some (vR 7), some (vI l2), some (vI l3), some (vI l4)], [], σ) else (84, [some (vR 87), some (vR 7), some (vI l2), some (vI l3), some (vI l4)], [], σ))) rfl ?_
      refine run_ite hf (fun _ hf => ?_) (fun _ hf => ?_)
      · refine run_seg (k := 5) (s' := (68, [some (vR 87), some (vR 7), some (vI l2), some (vI l3), some (vI l4)], [vI l4, vR 7, vL (σ 87 7), vR 87], σ)) rfl ?_
        refine run_callN (w := fun a => some (vI a)) (m := 90) (as := [vR 7, vI l4]) (pc := 71) (ls := [some (vR 87), some (vR 7), some (vI l2), some (vI l3), some (vI l4)]) (st' := [vL (σ 87 7), vR 87]) (σ := σ) hf rfl (fun _ h => (c_Table_allParts h).mono (by decide)) (fun r4 hf => ?_)
        refine run_seg (k := 3) (s' := (76, [some (vR 87), some (vR 7), some (vI l2), some (vI l3), some (vI l4)], [], upS σ 87 7 (w64 ((σ 87 7) * r4)))) rfl ?_
        refine run_let (fun σ5 => (76, [some (vR 87), some (vR 7), some (vI l2), some (vI l3), some (vI l4)], [], σ5)) hf (fun σ5 hf => ?_)
        refine run_seg (k := 4) (s' := (81, [some (vR 87), some (vR 7), some (vI l2), some (vI l3), some (vI l4)], [vI l3, vI l4, vR 7, vR 87], σ5)) rfl ?_
        refine run_callV (m := 55) (as := [vR 87, vR 7, vI l4, vI l3]) (pc := 84) (ls := [some (vR 87), some (vR 7), some (vI l2), some (vI l3), some (vI l4)]) (st' := []) (σ := σ5) hf rfl (fun _ h => (c_Odds_mixIn h).mono (by decide)) (fun σ6 hf => ?_)
        refine run_seg (k := 1) (s' := (87, [some (vR 87), some (vR 7), some (vI l2), some (vI l3), some (vI (w32 (l4 + 1)))], [], σ6)) rfl ?_
        refine run_let (fun x7 => (87, [some (vR 87), some (vR 7), some (vI l2), some (vI l3), some (vI x7)], [], σ6)) hf (fun x7 hf => ?_)
        refine run_seg (k := 1) (s' := (41, [some (vR 87), some (vR 7), some (vI l2), some (vI l3), some (vI x7)], [], σ6)) rfl ?_
        exact ih hf
      · refine run_seg (k := 1) (s' := (87, [some (vR 87), some (vR 7), some (vI l2), some (vI l3), some (vI (w32 (l4 + 1)))], [], σ)) rfl ?_
        refine run_let (fun x8 => (87, [some (vR 87), some (vR 7), some (vI l2), some (vI l3), some (vI x8)], [], σ)) hf (fun x8 hf => ?_)
        refine run_seg (k := 1) (s' := (41, [some (vR 87), some (vR 7), some (vI l2), some (vI l3), some (vI x8)], [], σ)) rfl ?_
        exact ih hf
    · exact run_ret hf rfl
theorem r_Odds_mix_8 : ∀ (n : Nat) {l2 : Int} {l3 : Int} {l4 : Int} {σ : xSt} {r : xSt}, f_Odds_mix_8 n l2 l3 l4 σ = some r → Run 3 4 0 kX4_mix (8, [some (vR 87), some (vR 7), some (vI l2), some (vI l3), some (vI l4)], [], σ) (tV r) := by
  intro n
  induction n with
  | zero =>
    intro _ _ _ _ _ h
    exact nomatch (show (none : Option (xSt)) = some _ from h)
  | succ n ih =>
    intro l2 l3 l4 σ r hf
    unfold f_Odds_mix_8 at hf
    refine run_seg (k := 3) (s' := (if l4 < 6 then (15, [some (vR 87), some (vR 7), some (vI l2), some (vI l3), some (vI l4)], [], σ) else (38, [some (vR 87), some (vR 7), some (vI l2), some (vI l3), some (vI l4)], [], σ))) rfl ?_
    refine run_ite hf (fun _ hf => ?_) (fun _ hf => ?_)
    · refine run_seg (k := 5) (s' := (if l4 = 0 then (26, [some (vR 87), some (vR 7), some (vI l2), some (vI l3), some (vI l4)], [vI l4, vR 93], σ) else (30, [some (vR 87), some (vR 7), some (vI l2), some (vI l3), some (vI l4)], [vI l4, vR 93], σ))) rfl ?_
      refine run_ite hf (fun _ hf => ?_) (fun _ hf => ?_)
      · refine run_seg (k := 2) (s' := (31, [some (vR 87), some (vR 7), some (vI l2), some (vI l3), some (vI l4)], [vL 1, vI l4, vR 93], σ)) rfl ?_
        exact r_Odds_mix_31 (fun h => ih h) hf
      · refine run_seg (k := 1) (s' := (31, [some (vR 87), some (vR 7), some (vI l2), some (vI l3), some (vI l4)], [vL 0, vI l4, vR 93], σ)) rfl ?_
        exact r_Odds_mix_31 (fun h => ih h) hf
    · refine run_seg (k := 2) (s' := (41, [some (vR 87), some (vR 7), some (vI l2), some (vI l3), some (vI 0)], [], σ)) rfl ?_
      exact r_Odds_mix_41 1000000 hf
theorem c_Odds_mix {p2 : Int} {p3 : Int} {σ : xSt} {r : xSt} (hf : f_Odds_mix p2 p3 σ = some r) : Call (3 + 1) 54 [vR 87, vR 7, vI p2, vI p3] σ (tV r).1 (tV r).2 := by
  unfold f_Odds_mix at hf
  refine call_of (own := 4) (rk := 0) (cd := kX4_mix) (ls := [some (vR 87), some (vR 7), some (vI p2), some (vI p3), none]) (rT := tV) rfl rfl rfl rfl rfl ?_
  refine run_seg (k := 3) (s' := (5, [some (vR 87), some (vR 7), some (vI p2), some (vI p3), none], [], upS σ 87 7 1)) rfl ?_
  refine run_let (fun σ1 => (5, [some (vR 87), some (vR 7), some (vI p2), some (vI p3), none], [], σ1)) hf (fun σ1 hf => ?_)
  refine run_seg (k := 2) (s' := (8, [some (vR 87), some (vR 7), some (vI p2), some (vI p3), some (vI 0)], [], σ1)) rfl ?_
  exact r_Odds_mix_8 1000000 hf
/-- BentPenny$Odds.restWeight(I)J -/
def f_Odds_restWeight (p1 : Int) (σ : xSt) : Option (Int) :=
  xbR (f_X_isWithin p1 6 σ) fun r1 =>
  if r1 = 0 then (some 0)
  else (if 0 ≤ p1 ∧ p1 < 6 then (
  some (σ 93 p1.toNat)) else none)
theorem c_Odds_restWeight {p1 : Int} {σ : xSt} {r : Int} (hf : f_Odds_restWeight p1 σ = some r) : Call (1 + 1) 56 [vR 87, vI p1] σ ((tL σ) r).1 ((tL σ) r).2 := by
  unfold f_Odds_restWeight at hf
  refine call_of (own := 4) (rk := 3) (cd := kX4_restWeight) (ls := [some (vR 87), some (vI p1)]) (rT := (tL σ)) rfl rfl rfl rfl rfl ?_
  refine run_seg (k := 2) (s' := (3, [some (vR 87), some (vI p1)], [vI 6, vI p1], σ)) rfl ?_
  refine run_callN (w := fun a => some (vI a)) (m := 207) (as := [vI p1, vI 6]) (pc := 6) (ls := [some (vR 87), some (vI p1)]) (st' := []) (σ := σ) hf rfl (fun _ h => (c_X_isWithin h).mono (by decide)) (fun r1 hf => ?_)
  refine run_seg (k := 1) (s' := (if r1 = 0 then (18, [some (vR 87), some (vI p1)], [], σ) else (9, [some (vR 87), some (vI p1)], [], σ))) rfl ?_
  refine run_ite hf (fun _ hf => ?_) (fun _ hf => ?_)
  · refine run_seg (k := 1) (s' := (19, [some (vR 87), some (vI p1)], [vL 0], σ)) rfl ?_
    exact run_ret hf rfl
  · refine run_seg (k := 3) (s' := (14, [some (vR 87), some (vI p1)], [vI p1, vR 93], σ)) rfl ?_
    refine run_guard (s' := (15, [some (vR 87), some (vI p1)], [vL (σ 93 p1.toNat)], σ)) hf rfl (fun hf => ?_)
    refine run_seg (k := 1) (s' := (19, [some (vR 87), some (vI p1)], [vL (σ 93 p1.toNat)], σ)) rfl ?_
    exact run_ret hf rfl
/-- BentPenny.mixed(III)J -/
def f_X_mixed (p1 : Int) (p2 : Int) (p3 : Int) (σ : xSt) : Option (Option Int × xSt) :=
  xbR (f_Table_sidesAlike p1 σ) fun r1 =>
  xbR (f_X_isWithin p2 r1 σ) fun r2 =>
  if r2 = 0 then (some (none, σ))
  else (xbR (f_X_isWithin p3 2 σ) fun r3 =>
  if r3 = 0 then (some (none, σ))
  else (xbR (f_Odds_mix p1 r1 σ) fun σ4 =>
  xbR (f_Odds_restWeight p2 σ4) fun r5 =>
  xbW (f_X_told r5 (σ4 87 7) p3 σ4) fun r6 σ7 =>
  some (some r6, σ7)))
theorem c_X_mixed {p1 : Int} {p2 : Int} {p3 : Int} {σ : xSt} {r : Option Int × xSt} (hf : f_X_mixed p1 p2 p3 σ = some r) : Call (4 + 1) 185 [vR 0, vI p1, vI p2, vI p3] σ (tXL r).1 (tXL r).2 := by
  unfold f_X_mixed at hf
  refine call_of (own := 11) (rk := 3) (cd := kX11_mixed) (ls := [some (vR 0), some (vI p1), some (vI p2), some (vI p3), none]) (rT := tXL) rfl rfl rfl rfl rfl ?_
  refine run_seg (k := 4) (s' := (8, [some (vR 0), some (vI p1), some (vI p2), some (vI p3), none], [vI p1, vR 7], σ)) rfl ?_
  refine run_callN (w := fun a => some (vI a)) (m := 98) (as := [vR 7, vI p1]) (pc := 11) (ls := [some (vR 0), some (vI p1), some (vI p2), some (vI p3), none]) (st' := []) (σ := σ) hf rfl (fun _ h => (c_Table_sidesAlike h).mono (by decide)) (fun r1 hf => ?_)
  refine run_seg (k := 3) (s' := (16, [some (vR 0), some (vI p1), some (vI p2), some (vI p3), some (vI r1)], [vI r1, vI p2], σ)) rfl ?_
  refine run_callN (w := fun a => some (vI a)) (m := 207) (as := [vI p2, vI r1]) (pc := 19) (ls := [some (vR 0), some (vI p1), some (vI p2), some (vI p3), some (vI r1)]) (st' := []) (σ := σ) hf rfl (fun _ h => (c_X_isWithin h).mono (by decide)) (fun r2 hf => ?_)
  refine run_seg (k := 1) (s' := (if r2 = 0 then (30, [some (vR 0), some (vI p1), some (vI p2), some (vI p3), some (vI r1)], [], σ) else (22, [some (vR 0), some (vI p1), some (vI p2), some (vI p3), some (vI r1)], [], σ))) rfl ?_
  refine run_ite hf (fun _ hf => ?_) (fun _ hf => ?_)
  · exact run_ret hf rfl
  · refine run_seg (k := 2) (s' := (24, [some (vR 0), some (vI p1), some (vI p2), some (vI p3), some (vI r1)], [vI 2, vI p3], σ)) rfl ?_
    refine run_callN (w := fun a => some (vI a)) (m := 207) (as := [vI p3, vI 2]) (pc := 27) (ls := [some (vR 0), some (vI p1), some (vI p2), some (vI p3), some (vI r1)]) (st' := []) (σ := σ) hf rfl (fun _ h => (c_X_isWithin h).mono (by decide)) (fun r3 hf => ?_)
    refine run_seg (k := 1) (s' := (if r3 = 0 then (30, [some (vR 0), some (vI p1), some (vI p2), some (vI p3), some (vI r1)], [], σ) else (38, [some (vR 0), some (vI p1), some (vI p2), some (vI p3), some (vI r1)], [], σ))) rfl ?_
    refine run_ite hf (fun _ hf => ?_) (fun _ hf => ?_)
    · exact run_ret hf rfl
    · refine run_seg (k := 7) (s' := (52, [some (vR 0), some (vI p1), some (vI p2), some (vI p3), some (vI r1)], [vI r1, vI p1, vR 7, vR 87], σ)) rfl ?_
      refine run_callV (m := 54) (as := [vR 87, vR 7, vI p1, vI r1]) (pc := 55) (ls := [some (vR 0), some (vI p1), some (vI p2), some (vI p3), some (vI r1)]) (st' := []) (σ := σ) hf rfl (fun _ h => (c_Odds_mix h).mono (by decide)) (fun σ4 hf => ?_)
      refine run_seg (k := 4) (s' := (61, [some (vR 0), some (vI p1), some (vI p2), some (vI p3), some (vI r1)], [vI p2, vR 87, vR 0], σ4)) rfl ?_
      refine run_callN (w := fun a => some (vL a)) (m := 56) (as := [vR 87, vI p2]) (pc := 64) (ls := [some (vR 0), some (vI p1), some (vI p2), some (vI p3), some (vI r1)]) (st' := [vR 0]) (σ := σ4) hf rfl (fun _ h => (c_Odds_restWeight h).mono (by decide)) (fun r5 hf => ?_)
      refine run_seg (k := 4) (s' := (72, [some (vR 0), some (vI p1), some (vI p2), some (vI p3), some (vI r1)], [vI p3, vL (σ4 87 7), vL r5, vR 0], σ4)) rfl ?_
      refine run_callW (w := fun a => some (vL a)) (m := 167) (as := [vR 0, vL r5, vL (σ4 87 7), vI p3]) (pc := 75) (ls := [some (vR 0), some (vI p1), some (vI p2), some (vI p3), some (vI r1)]) (st' := []) (σ := σ4) hf rfl (fun _ _ h => (c_X_told h).mono (by decide)) (fun r6 σ7 hf => ?_)
      exact run_ret hf rfl
def f_X_luck_52 : Nat → Int → Int → Int → Int → Int → xSt → Option (Option Int × xSt)
  | 0, _, _, _, _, _, _ => none
  | n + 1, l1, l3, l4, l5, l7, σ =>
    if l1 < l7 then (xbW (f_X_told l5 (xlshl 1 l1) l3 σ) fun r3 σ4 =>
    some (some r3, σ4))
    else (if xabs (w32 ((w32 (2 * l7)) - l1)) < l4 then (xlet (w32 (l7 + 1)) fun x5 =>
    f_X_luck_52 n l1 l3 l4 l5 x5 σ)
    else (xbR (f_Fraction_choices l1 l7 σ) fun r6 =>
    xlet (w64 (l5 + r6)) fun x7 =>
    xlet (w32 (l7 + 1)) fun x8 =>
    f_X_luck_52 n l1 l3 l4 x7 x8 σ))
/-- BentPenny.luck(III)J -/
def f_X_luck (p1 : Int) (p2 : Int) (p3 : Int) (σ : xSt) : Option (Option Int × xSt) :=
  if p1 < 1 then (some (none, σ))
  else (if 60 < p1 then (some (none, σ))
  else (if p2 < 0 then (some (none, σ))
  else (if p1 < p2 then (some (none, σ))
  else (xbR (f_X_isWithin p3 2 σ) fun r1 =>
  if r1 = 0 then (some (none, σ))
  else (xlet (xabs (w32 ((w32 (2 * p2)) - p1))) fun x2 =>
  f_X_luck_52 1000000 p1 p3 x2 0 0 σ)))))
theorem r_X_luck_52 : ∀ (n : Nat) {l1 : Int} {l3 : Int} {l4 : Int} {l5 : Int} {l7 : Int} {g2 : Option xV} {σ : xSt} {r : Option Int × xSt}, f_X_luck_52 n l1 l3 l4 l5 l7 σ = some r → Run 3 11 3 kX11_luck (52, [some (vR 0), some (vI l1), g2, some (vI l3), some (vI l4), some (vL l5), none, some (vI l7)], [], σ) (tXL r) := by
  intro n
  induction n with
  | zero =>
    intro _ _ _ _ _ _ _ _ h
    exact nomatch (show (none : Option (Option Int × xSt)) = some _ from h)
  | succ n ih =>
    intro l1 l3 l4 l5 l7 g2 σ r hf
    unfold f_X_luck_52 at hf
    refine run_seg (k := 3) (s' := (if l1 < l7 then (89, [some (vR 0), some (vI l1), g2, some (vI l3), some (vI l4), some (vL l5), none, some (vI l7)], [], σ) else (58, [some (vR 0), some (vI l1), g2, some (vI l3), some (vI l4), some (vL l5), none, some (vI l7)], [], σ))) rfl ?_
    refine run_ite hf (fun _ hf => ?_) (fun _ hf => ?_)
    · refine run_seg (k := 6) (s' := (96, [some (vR 0), some (vI l1), g2, some (vI l3), some (vI l4), some (vL l5), none, some (vI l7)], [vI l3, vL (xlshl 1 l1), vL l5, vR 0], σ)) rfl ?_
      refine run_callW (w := fun a => some (vL a)) (m := 167) (as := [vR 0, vL l5, vL (xlshl 1 l1), vI l3]) (pc := 99) (ls := [some (vR 0), some (vI l1), g2, some (vI l3), some (vI l4), some (vL l5), none, some (vI l7)]) (st' := []) (σ := σ) hf rfl (fun _ _ h => (c_X_told h).mono (by decide)) (fun r3 σ4 hf => ?_)
      exact run_ret hf rfl
    · refine run_seg (k := 8) (s' := (if xabs (w32 ((w32 (2 * l7)) - l1)) < l4 then (83, [some (vR 0), some (vI l1), g2, some (vI l3), some (vI l4), some (vL l5), none, some (vI l7)], [], σ) else (72, [some (vR 0), some (vI l1), g2, some (vI l3), some (vI l4), some (vL l5), none, some (vI l7)], [], σ))) rfl ?_
      refine run_ite hf (fun _ hf => ?_) (fun _ hf => ?_)
      · refine run_seg (k := 1) (s' := (86, [some (vR 0), some (vI l1), g2, some (vI l3), some (vI l4), some (vL l5), none, some (vI (w32 (l7 + 1)))], [], σ)) rfl ?_
        refine run_let (fun x5 => (86, [some (vR 0), some (vI l1), g2, some (vI l3), some (vI l4), some (vL l5), none, some (vI x5)], [], σ)) hf (fun x5 hf => ?_)
        refine run_seg (k := 1) (s' := (52, [some (vR 0), some (vI l1), g2, some (vI l3), some (vI l4), some (vL l5), none, some (vI x5)], [], σ)) rfl ?_
        exact ih hf
      · refine run_seg (k := 3) (s' := (77, [some (vR 0), some (vI l1), g2, some (vI l3), some (vI l4), some (vL l5), none, some (vI l7)], [vI l7, vI l1, vL l5], σ)) rfl ?_
        refine run_callN (w := fun a => some (vL a)) (m := 32) (as := [vI l1, vI l7]) (pc := 80) (ls := [some (vR 0), some (vI l1), g2, some (vI l3), some (vI l4), some (vL l5), none, some (vI l7)]) (st' := [vL l5]) (σ := σ) hf rfl (fun _ h => (c_Fraction_choices h).mono (by decide)) (fun r6 hf => ?_)
        refine run_seg (k := 2) (s' := (83, [some (vR 0), some (vI l1), g2, some (vI l3), some (vI l4), some (vL (w64 (l5 + r6))), none, some (vI l7)], [], σ)) rfl ?_
        refine run_let (fun x7 => (83, [some (vR 0), some (vI l1), g2, some (vI l3), some (vI l4), some (vL x7), none, some (vI l7)], [], σ)) hf (fun x7 hf => ?_)
        refine run_seg (k := 1) (s' := (86, [some (vR 0), some (vI l1), g2, some (vI l3), some (vI l4), some (vL x7), none, some (vI (w32 (l7 + 1)))], [], σ)) rfl ?_
        refine run_let (fun x8 => (86, [some (vR 0), some (vI l1), g2, some (vI l3), some (vI l4), some (vL x7), none, some (vI x8)], [], σ)) hf (fun x8 hf => ?_)
        refine run_seg (k := 1) (s' := (52, [some (vR 0), some (vI l1), g2, some (vI l3), some (vI l4), some (vL x7), none, some (vI x8)], [], σ)) rfl ?_
        exact ih hf
theorem c_X_luck {p1 : Int} {p2 : Int} {p3 : Int} {σ : xSt} {r : Option Int × xSt} (hf : f_X_luck p1 p2 p3 σ = some r) : Call (3 + 1) 186 [vR 0, vI p1, vI p2, vI p3] σ (tXL r).1 (tXL r).2 := by
  unfold f_X_luck at hf
  refine call_of (own := 11) (rk := 3) (cd := kX11_luck) (ls := [some (vR 0), some (vI p1), some (vI p2), some (vI p3), none, none, none, none]) (rT := tXL) rfl rfl rfl rfl rfl ?_
  refine run_seg (k := 3) (s' := (if p1 < 1 then (28, [some (vR 0), some (vI p1), some (vI p2), some (vI p3), none, none, none, none], [], σ) else (5, [some (vR 0), some (vI p1), some (vI p2), some (vI p3), none, none, none, none], [], σ))) rfl ?_
  refine run_ite hf (fun _ hf => ?_) (fun _ hf => ?_)
  · exact run_ret hf rfl
  · refine run_seg (k := 3) (s' := (if 60 < p1 then (28, [some (vR 0), some (vI p1), some (vI p2), some (vI p3), none, none, none, none], [], σ) else (11, [some (vR 0), some (vI p1), some (vI p2), some (vI p3), none, none, none, none], [], σ))) rfl ?_
    refine run_ite hf (fun _ hf => ?_) (fun _ hf => ?_)
    · exact run_ret hf rfl
    · refine run_seg (k := 2) (s' := (if p2 < 0 then (28, [some (vR 0), some (vI p1), some (vI p2), some (vI p3), none, none, none, none], [], σ) else (15, [some (vR 0), some (vI p1), some (vI p2), some (vI p3), none, none, none, none], [], σ))) rfl ?_
      refine run_ite hf (fun _ hf => ?_) (fun _ hf => ?_)
      · exact run_ret hf rfl
      · refine run_seg (k := 3) (s' := (if p1 < p2 then (28, [some (vR 0), some (vI p1), some (vI p2), some (vI p3), none, none, none, none], [], σ) else (20, [some (vR 0), some (vI p1), some (vI p2), some (vI p3), none, none, none, none], [], σ))) rfl ?_
        refine run_ite hf (fun _ hf => ?_) (fun _ hf => ?_)
        · exact run_ret hf rfl
        · refine run_seg (k := 2) (s' := (22, [some (vR 0), some (vI p1), some (vI p2), some (vI p3), none, none, none, none], [vI 2, vI p3], σ)) rfl ?_
          refine run_callN (w := fun a => some (vI a)) (m := 207) (as := [vI p3, vI 2]) (pc := 25) (ls := [some (vR 0), some (vI p1), some (vI p2), some (vI p3), none, none, none, none]) (st' := []) (σ := σ) hf rfl (fun _ h => (c_X_isWithin h).mono (by decide)) (fun r1 hf => ?_)
          refine run_seg (k := 1) (s' := (if r1 = 0 then (28, [some (vR 0), some (vI p1), some (vI p2), some (vI p3), none, none, none, none], [], σ) else (36, [some (vR 0), some (vI p1), some (vI p2), some (vI p3), none, none, none, none], [], σ))) rfl ?_
          refine run_ite hf (fun _ hf => ?_) (fun _ hf => ?_)
          · exact run_ret hf rfl
          · refine run_seg (k := 7) (s' := (46, [some (vR 0), some (vI p1), some (vI p2), some (vI p3), some (vI (xabs (w32 ((w32 (2 * p2)) - p1)))), none, none, none], [], σ)) rfl ?_
            refine run_let (fun x2 => (46, [some (vR 0), some (vI p1), some (vI p2), some (vI p3), some (vI x2), none, none, none], [], σ)) hf (fun x2 hf => ?_)
            refine run_seg (k := 4) (s' := (52, [some (vR 0), some (vI p1), some (vI p2), some (vI p3), some (vI x2), some (vL 0), none, some (vI 0)], [], σ)) rfl ?_
            exact r_X_luck_52 1000000 hf
/-- BentPenny.cuts(II)J -/
def f_X_cuts (p0 : Int) (p1 : Int) (σ : xSt) : Option (Int) :=
  if p1 = 0 then (if p0 = 0 then (some 1)
  else (some 0))
  else (xbR (f_Fraction_choices (w32 (p0 - 1)) (w32 (p1 - 1)) σ) fun r1 =>
  some r1)
theorem c_X_cuts {p0 : Int} {p1 : Int} {σ : xSt} {r : Int} (hf : f_X_cuts p0 p1 σ = some r) : Call (1 + 1) 189 [vI p0, vI p1] σ ((tL σ) r).1 ((tL σ) r).2 := by
  unfold f_X_cuts at hf
  refine call_of (own := 11) (rk := 3) (cd := kX11_cuts) (ls := [some (vI p0), some (vI p1)]) (rT := (tL σ)) rfl rfl rfl rfl rfl ?_
  refine run_seg (k := 2) (s' := (if p1 = 0 then (4, [some (vI p0), some (vI p1)], [], σ) else (14, [some (vI p0), some (vI p1)], [], σ))) rfl ?_
  refine run_ite hf (fun _ hf => ?_) (fun _ hf => ?_)
  · refine run_seg (k := 2) (s' := (if p0 = 0 then (8, [some (vI p0), some (vI p1)], [], σ) else (12, [some (vI p0), some (vI p1)], [], σ))) rfl ?_
    refine run_ite hf (fun _ hf => ?_) (fun _ hf => ?_)
    · refine run_seg (k := 2) (s' := (13, [some (vI p0), some (vI p1)], [vL 1], σ)) rfl ?_
      exact run_ret hf rfl
    · refine run_seg (k := 1) (s' := (13, [some (vI p0), some (vI p1)], [vL 0], σ)) rfl ?_
      exact run_ret hf rfl
  · refine run_seg (k := 6) (s' := (20, [some (vI p0), some (vI p1)], [vI (w32 (p1 - 1)), vI (w32 (p0 - 1))], σ)) rfl ?_
    refine run_callN (w := fun a => some (vL a)) (m := 32) (as := [vI (w32 (p0 - 1)), vI (w32 (p1 - 1))]) (pc := 23) (ls := [some (vI p0), some (vI p1)]) (st' := []) (σ := σ) hf rfl (fun _ h => (c_Fraction_choices h).mono (by decide)) (fun r1 hf => ?_)
    exact run_ret hf rfl
/-- BentPenny.rowsOfRuns(III)J -/
def f_X_rowsOfRuns (p0 : Int) (p1 : Int) (p2 : Int) (σ : xSt) : Option (Int) :=
  xlet (xdiv p2 2) fun x1 =>
  xlet (w32 (p2 - x1)) fun x2 =>
  xbR (f_X_cuts p0 x1 σ) fun r3 =>
  xbR (f_X_cuts p1 x2 σ) fun r4 =>
  xbR (f_X_cuts p0 x2 σ) fun r5 =>
  xbR (f_X_cuts p1 x1 σ) fun r6 =>
  some (w64 ((w64 (r3 * r4)) + (w64 (r5 * r6))))
theorem c_X_rowsOfRuns {p0 : Int} {p1 : Int} {p2 : Int} {σ : xSt} {r : Int} (hf : f_X_rowsOfRuns p0 p1 p2 σ = some r) : Call (2 + 1) 188 [vI p0, vI p1, vI p2] σ ((tL σ) r).1 ((tL σ) r).2 := by
  unfold f_X_rowsOfRuns at hf
  refine call_of (own := 11) (rk := 3) (cd := kX11_rowsOfRuns) (ls := [some (vI p0), some (vI p1), some (vI p2), none, none]) (rT := (tL σ)) rfl rfl rfl rfl rfl ?_
  refine run_seg (k := 4) (s' := (4, [some (vI p0), some (vI p1), some (vI p2), some (vI (xdiv p2 2)), none], [], σ)) rfl ?_
  refine run_let (fun x1 => (4, [some (vI p0), some (vI p1), some (vI p2), some (vI x1), none], [], σ)) hf (fun x1 hf => ?_)
  refine run_seg (k := 4) (s' := (9, [some (vI p0), some (vI p1), some (vI p2), some (vI x1), some (vI (w32 (p2 - x1)))], [], σ)) rfl ?_
  refine run_let (fun x2 => (9, [some (vI p0), some (vI p1), some (vI p2), some (vI x1), some (vI x2)], [], σ)) hf (fun x2 hf => ?_)
  refine run_seg (k := 2) (s' := (11, [some (vI p0), some (vI p1), some (vI p2), some (vI x1), some (vI x2)], [vI x1, vI p0], σ)) rfl ?_
  refine run_callN (w := fun a => some (vL a)) (m := 189) (as := [vI p0, vI x1]) (pc := 14) (ls := [some (vI p0), some (vI p1), some (vI p2), some (vI x1), some (vI x2)]) (st' := []) (σ := σ) hf rfl (fun _ h => (c_X_cuts h).mono (by decide)) (fun r3 hf => ?_)
  refine run_seg (k := 2) (s' := (17, [some (vI p0), some (vI p1), some (vI p2), some (vI x1), some (vI x2)], [vI x2, vI p1, vL r3], σ)) rfl ?_
  refine run_callN (w := fun a => some (vL a)) (m := 189) (as := [vI p1, vI x2]) (pc := 20) (ls := [some (vI p0), some (vI p1), some (vI p2), some (vI x1), some (vI x2)]) (st' := [vL r3]) (σ := σ) hf rfl (fun _ h => (c_X_cuts h).mono (by decide)) (fun r4 hf => ?_)
  refine run_seg (k := 3) (s' := (24, [some (vI p0), some (vI p1), some (vI p2), some (vI x1), some (vI x2)], [vI x2, vI p0, vL (w64 (r3 * r4))], σ)) rfl ?_
  refine run_callN (w := fun a => some (vL a)) (m := 189) (as := [vI p0, vI x2]) (pc := 27) (ls := [some (vI p0), some (vI p1), some (vI p2), some (vI x1), some (vI x2)]) (st' := [vL (w64 (r3 * r4))]) (σ := σ) hf rfl (fun _ h => (c_X_cuts h).mono (by decide)) (fun r5 hf => ?_)
  refine run_seg (k := 2) (s' := (29, [some (vI p0), some (vI p1), some (vI p2), some (vI x1), some (vI x2)], [vI x1, vI p1, vL r5, vL (w64 (r3 * r4))], σ)) rfl ?_
  refine run_callN (w := fun a => some (vL a)) (m := 189) (as := [vI p1, vI x1]) (pc := 32) (ls := [some (vI p0), some (vI p1), some (vI p2), some (vI x1), some (vI x2)]) (st' := [vL r5, vL (w64 (r3 * r4))]) (σ := σ) hf rfl (fun _ h => (c_X_cuts h).mono (by decide)) (fun r6 hf => ?_)
  refine run_seg (k := 2) (s' := (34, [some (vI p0), some (vI p1), some (vI p2), some (vI x1), some (vI x2)], [vL (w64 ((w64 (r3 * r4)) + (w64 (r5 * r6))))], σ)) rfl ?_
  exact run_ret hf rfl
def f_X_runs_87 : Nat → Int → Int → Int → Int → Int → xSt → Option (Int × xSt)
  | 0, _, _, _, _, _, _ => none
  | n + 1, l1, l2, l3, l4, l6, σ =>
    if l3 < l6 then (xbR (f_Fraction_choices l1 l2 σ) fun r9 =>
    xbW (f_Fraction_put 104 l4 r9 σ) fun r10 σ11 =>
    some (l3, σ11))
    else (xbR (f_X_rowsOfRuns l2 (w32 (l1 - l2)) l6 σ) fun r12 =>
    xlet (w64 (l4 + r12)) fun x13 =>
    xlet (w32 (l6 + 1)) fun x14 =>
    f_X_runs_87 n l1 l2 l3 x13 x14 σ)
def f_X_runs_22 : Nat → Int → Int → Int → Int → xSt → Option (Int × xSt)
  | 0, _, _, _, _, _ => none
  | n + 1, l1, l2, l3, l4, σ =>
    if l4 < l1 then (if l4 < 600 then (if 0 ≤ l4 ∧ l4 < 600 then (
    xlet (w32 (l2 + (σ 98 l4.toNat))) fun x3 =>
    if l4 = 0 then (xlet (w32 (l3 + 1)) fun x4 =>
    xlet (w32 (l4 + 1)) fun x5 =>
    f_X_runs_22 n l1 x3 x4 x5 σ)
    else (if 0 ≤ l4 ∧ l4 < 600 then (
    if 0 ≤ w32 (l4 - 1) ∧ w32 (l4 - 1) < 600 then (
    if σ 98 l4.toNat = σ 98 (w32 (l4 - 1)).toNat then (xlet (w32 (l4 + 1)) fun x6 =>
    f_X_runs_22 n l1 x3 l3 x6 σ)
    else (xlet (w32 (l3 + 1)) fun x7 =>
    xlet (w32 (l4 + 1)) fun x8 =>
    f_X_runs_22 n l1 x3 x7 x8 σ)) else none) else none)) else none)
    else (f_X_runs_87 1000000 l1 l2 l3 0 1 σ))
    else (f_X_runs_87 1000000 l1 l2 l3 0 1 σ)
/-- BentPenny.runs()I -/
def f_X_runs (σ : xSt) : Option (Int × xSt) :=
  xbW (f_X_takeRow 1 60 σ) fun r1 σ2 =>
  if r1 = (-1) then (some ((-1), σ2))
  else (f_X_runs_22 1000000 r1 0 0 0 σ2)
theorem r_X_runs_87 : ∀ (n : Nat) {l1 : Int} {l2 : Int} {l3 : Int} {l4 : Int} {l6 : Int} {σ : xSt} {r : Int × xSt}, f_X_runs_87 n l1 l2 l3 l4 l6 σ = some r → Run 3 11 1 kX11_runs (87, [some (vR 0), some (vI l1), some (vI l2), some (vI l3), some (vL l4), none, some (vI l6)], [], σ) (tIW r) := by
  intro n
  induction n with
  | zero =>
    intro _ _ _ _ _ _ _ h
    exact nomatch (show (none : Option (Int × xSt)) = some _ from h)
  | succ n ih =>
    intro l1 l2 l3 l4 l6 σ r hf
    unfold f_X_runs_87 at hf
    refine run_seg (k := 3) (s' := (if l3 < l6 then (113, [some (vR 0), some (vI l1), some (vI l2), some (vI l3), some (vL l4), none, some (vI l6)], [], σ) else (93, [some (vR 0), some (vI l1), some (vI l2), some (vI l3), some (vL l4), none, some (vI l6)], [], σ))) rfl ?_
    refine run_ite hf (fun _ hf => ?_) (fun _ hf => ?_)
    · refine run_seg (k := 5) (s' := (121, [some (vR 0), some (vI l1), some (vI l2), some (vI l3), some (vL l4), none, some (vI l6)], [vI l2, vI l1, vL l4, vR 104], σ)) rfl ?_
      refine run_callN (w := fun a => some (vL a)) (m := 32) (as := [vI l1, vI l2]) (pc := 124) (ls := [some (vR 0), some (vI l1), some (vI l2), some (vI l3), some (vL l4), none, some (vI l6)]) (st' := [vL l4, vR 104]) (σ := σ) hf rfl (fun _ h => (c_Fraction_choices h).mono (by decide)) (fun r9 hf => ?_)
      refine run_callW (w := fun a => some (vI a)) (m := 28) (as := [vR 104, vL l4, vL r9]) (pc := 127) (ls := [some (vR 0), some (vI l1), some (vI l2), some (vI l3), some (vL l4), none, some (vI l6)]) (st' := []) (σ := σ) hf rfl (fun _ _ h => (c_Fraction_put_104 h).mono (by decide)) (fun r10 σ11 hf => ?_)
      refine run_seg (k := 2) (s' := (129, [some (vR 0), some (vI l1), some (vI l2), some (vI l3), some (vL l4), none, some (vI l6)], [vI l3], σ11)) rfl ?_
      exact run_ret hf rfl
    · refine run_seg (k := 6) (s' := (101, [some (vR 0), some (vI l1), some (vI l2), some (vI l3), some (vL l4), none, some (vI l6)], [vI l6, vI (w32 (l1 - l2)), vI l2, vL l4], σ)) rfl ?_
      refine run_callN (w := fun a => some (vL a)) (m := 188) (as := [vI l2, vI (w32 (l1 - l2)), vI l6]) (pc := 104) (ls := [some (vR 0), some (vI l1), some (vI l2), some (vI l3), some (vL l4), none, some (vI l6)]) (st' := [vL l4]) (σ := σ) hf rfl (fun _ h => (c_X_rowsOfRuns h).mono (by decide)) (fun r12 hf => ?_)
      refine run_seg (k := 2) (s' := (107, [some (vR 0), some (vI l1), some (vI l2), some (vI l3), some (vL (w64 (l4 + r12))), none, some (vI l6)], [], σ)) rfl ?_
      refine run_let (fun x13 => (107, [some (vR 0), some (vI l1), some (vI l2), some (vI l3), some (vL x13), none, some (vI l6)], [], σ)) hf (fun x13 hf => ?_)
      refine run_seg (k := 1) (s' := (110, [some (vR 0), some (vI l1), some (vI l2), some (vI l3), some (vL x13), none, some (vI (w32 (l6 + 1)))], [], σ)) rfl ?_
      refine run_let (fun x14 => (110, [some (vR 0), some (vI l1), some (vI l2), some (vI l3), some (vL x13), none, some (vI x14)], [], σ)) hf (fun x14 hf => ?_)
      refine run_seg (k := 1) (s' := (87, [some (vR 0), some (vI l1), some (vI l2), some (vI l3), some (vL x13), none, some (vI x14)], [], σ)) rfl ?_
      exact ih hf
theorem r_X_runs_22 : ∀ (n : Nat) {l1 : Int} {l2 : Int} {l3 : Int} {l4 : Int} {g5 : Option xV} {g6 : Option xV} {σ : xSt} {r : Int × xSt}, f_X_runs_22 n l1 l2 l3 l4 σ = some r → Run 3 11 1 kX11_runs (22, [some (vR 0), some (vI l1), some (vI l2), some (vI l3), some (vI l4), g5, g6], [], σ) (tIW r) := by
  intro n
  induction n with
  | zero =>
    intro _ _ _ _ _ _ _ _ h
    exact nomatch (show (none : Option (Int × xSt)) = some _ from h)
  | succ n ih =>
    intro l1 l2 l3 l4 g5 g6 σ r hf
    unfold f_X_runs_22 at hf
    refine run_seg (k := 3) (s' := (if l4 < l1 then (28, [some (vR 0), some (vI l1), some (vI l2), some (vI l3), some (vI l4), g5, g6], [], σ) else (81, [some (vR 0), some (vI l1), some (vI l2), some (vI l3), some (vI l4), g5, g6], [], σ))) rfl ?_
    refine run_ite hf (fun _ hf => ?_) (fun _ hf => ?_)
    · refine run_seg (k := 5) (s' := (if l4 < 600 then (38, [some (vR 0), some (vI l1), some (vI l2), some (vI l3), some (vI l4), g5, g6], [], σ) else (81, [some (vR 0), some (vI l1), some (vI l2), some (vI l3), some (vI l4), g5, g6], [], σ))) rfl ?_
      refine run_ite hf (fun _ hf => ?_) (fun _ hf => ?_)
      · refine run_seg (k := 4) (s' := (45, [some (vR 0), some (vI l1), some (vI l2), some (vI l3), some (vI l4), g5, g6], [vI l4, vR 98, vI l2], σ)) rfl ?_
        refine run_guard (s' := (46, [some (vR 0), some (vI l1), some (vI l2), some (vI l3), some (vI l4), g5, g6], [vI (σ 98 l4.toNat), vI l2], σ)) hf rfl (fun hf => ?_)
        refine run_seg (k := 2) (s' := (48, [some (vR 0), some (vI l1), some (vI (w32 (l2 + (σ 98 l4.toNat)))), some (vI l3), some (vI l4), g5, g6], [], σ)) rfl ?_
        refine run_let (fun x3 => (48, [some (vR 0), some (vI l1), some (vI x3), some (vI l3), some (vI l4), g5, g6], [], σ)) hf (fun x3 hf => ?_)
        refine run_seg (k := 2) (s' := (if l4 = 0 then (72, [some (vR 0), some (vI l1), some (vI x3), some (vI l3), some (vI l4), g5, g6], [], σ) else (53, [some (vR 0), some (vI l1), some (vI x3), some (vI l3), some (vI l4), g5, g6], [], σ))) rfl ?_
        refine run_ite hf (fun _ hf => ?_) (fun _ hf => ?_)
        · refine run_seg (k := 1) (s' := (75, [some (vR 0), some (vI l1), some (vI x3), some (vI (w32 (l3 + 1))), some (vI l4), g5, g6], [], σ)) rfl ?_
          refine run_let (fun x4 => (75, [some (vR 0), some (vI l1), some (vI x3), some (vI x4), some (vI l4), g5, g6], [], σ)) hf (fun x4 hf => ?_)
          refine run_seg (k := 1) (s' := (78, [some (vR 0), some (vI l1), some (vI x3), some (vI x4), some (vI (w32 (l4 + 1))), g5, g6], [], σ)) rfl ?_
          refine run_let (fun x5 => (78, [some (vR 0), some (vI l1), some (vI x3), some (vI x4), some (vI x5), g5, g6], [], σ)) hf (fun x5 hf => ?_)
          refine run_seg (k := 1) (s' := (22, [some (vR 0), some (vI l1), some (vI x3), some (vI x4), some (vI x5), g5, g6], [], σ)) rfl ?_
          exact ih hf
        · refine run_seg (k := 3) (s' := (59, [some (vR 0), some (vI l1), some (vI x3), some (vI l3), some (vI l4), g5, g6], [vI l4, vR 98], σ)) rfl ?_
          refine run_guard (s' := (60, [some (vR 0), some (vI l1), some (vI x3), some (vI l3), some (vI l4), g5, g6], [vI (σ 98 l4.toNat)], σ)) hf rfl (fun hf => ?_)
          refine run_seg (k := 5) (s' := (68, [some (vR 0), some (vI l1), some (vI x3), some (vI l3), some (vI l4), g5, g6], [vI (w32 (l4 - 1)), vR 98, vI (σ 98 l4.toNat)], σ)) rfl ?_
          refine run_guard (s' := (69, [some (vR 0), some (vI l1), some (vI x3), some (vI l3), some (vI l4), g5, g6], [vI (σ 98 (w32 (l4 - 1)).toNat), vI (σ 98 l4.toNat)], σ)) hf rfl (fun hf => ?_)
          refine run_seg (k := 1) (s' := (if σ 98 l4.toNat = σ 98 (w32 (l4 - 1)).toNat then (75, [some (vR 0), some (vI l1), some (vI x3), some (vI l3), some (vI l4), g5, g6], [], σ) else (72, [some (vR 0), some (vI l1), some (vI x3), some (vI l3), some (vI l4), g5, g6], [], σ))) rfl ?_
          refine run_ite hf (fun _ hf => ?_) (fun _ hf => ?_)
          · refine run_seg (k := 1) (s' := (78, [some (vR 0), some (vI l1), some (vI x3), some (vI l3), some (vI (w32 (l4 + 1))), g5, g6], [], σ)) rfl ?_
            refine run_let (fun x6 => (78, [some (vR 0), some (vI l1), some (vI x3), some (vI l3), some (vI x6), g5, g6], [], σ)) hf (fun x6 hf => ?_)
            refine run_seg (k := 1) (s' := (22, [some (vR 0), some (vI l1), some (vI x3), some (vI l3), some (vI x6), g5, g6], [], σ)) rfl ?_
            exact ih hf
          · refine run_seg (k := 1) (s' := (75, [some (vR 0), some (vI l1), some (vI x3), some (vI (w32 (l3 + 1))), some (vI l4), g5, g6], [], σ)) rfl ?_
            refine run_let (fun x7 => (75, [some (vR 0), some (vI l1), some (vI x3), some (vI x7), some (vI l4), g5, g6], [], σ)) hf (fun x7 hf => ?_)
            refine run_seg (k := 1) (s' := (78, [some (vR 0), some (vI l1), some (vI x3), some (vI x7), some (vI (w32 (l4 + 1))), g5, g6], [], σ)) rfl ?_
            refine run_let (fun x8 => (78, [some (vR 0), some (vI l1), some (vI x3), some (vI x7), some (vI x8), g5, g6], [], σ)) hf (fun x8 hf => ?_)
            refine run_seg (k := 1) (s' := (22, [some (vR 0), some (vI l1), some (vI x3), some (vI x7), some (vI x8), g5, g6], [], σ)) rfl ?_
            exact ih hf
      · refine run_seg (k := 4) (s' := (87, [some (vR 0), some (vI l1), some (vI l2), some (vI l3), some (vL 0), none, some (vI 1)], [], σ)) rfl ?_
        exact r_X_runs_87 1000000 hf
    · refine run_seg (k := 4) (s' := (87, [some (vR 0), some (vI l1), some (vI l2), some (vI l3), some (vL 0), none, some (vI 1)], [], σ)) rfl ?_
      exact r_X_runs_87 1000000 hf
theorem c_X_runs {σ : xSt} {r : Int × xSt} (hf : f_X_runs σ = some r) : Call (3 + 1) 187 [vR 0] σ (tIW r).1 (tIW r).2 := by
  unfold f_X_runs at hf
  refine call_of (own := 11) (rk := 1) (cd := kX11_runs) (ls := [some (vR 0), none, none, none, none, none, none]) (rT := tIW) rfl rfl rfl rfl rfl ?_
  refine run_seg (k := 3) (s' := (4, [some (vR 0), none, none, none, none, none, none], [vI 60, vI 1, vR 0], σ)) rfl ?_
  refine run_callW (w := fun a => some (vI a)) (m := 153) (as := [vR 0, vI 1, vI 60]) (pc := 7) (ls := [some (vR 0), none, none, none, none, none, none]) (st' := []) (σ := σ) hf rfl (fun _ _ h => (c_X_takeRow h).mono (by decide)) (fun r1 σ2 hf => ?_)
  refine run_seg (k := 4) (s' := (if r1 = (-1) then (13, [some (vR 0), some (vI r1), none, none, none, none, none], [], σ2) else (15, [some (vR 0), some (vI r1), none, none, none, none, none], [], σ2))) rfl ?_
  refine run_ite hf (fun _ hf => ?_) (fun _ hf => ?_)
  · refine run_seg (k := 1) (s' := (14, [some (vR 0), some (vI r1), none, none, none, none, none], [vI (-1)], σ2)) rfl ?_
    exact run_ret hf rfl
  · refine run_seg (k := 6) (s' := (22, [some (vR 0), some (vI r1), some (vI 0), some (vI 0), some (vI 0), none, none], [], σ2)) rfl ?_
    exact r_X_runs_22 1000000 hf
/-- BentPenny.seldom(I)J -/
def f_X_seldom (p1 : Int) (σ : xSt) : Option (Option Int × xSt) :=
  if σ 104 0 = 0 then (some (none, σ))
  else (xbR (f_X_isWithin p1 2 σ) fun r1 =>
  if r1 = 0 then (some (none, σ))
  else (xbR (f_Fraction_part 104 p1 σ) fun r2 =>
  some (some r2, σ)))
theorem c_X_seldom {p1 : Int} {σ : xSt} {r : Option Int × xSt} (hf : f_X_seldom p1 σ = some r) : Call (1 + 1) 190 [vR 0, vI p1] σ (tXL r).1 (tXL r).2 := by
  unfold f_X_seldom at hf
  refine call_of (own := 11) (rk := 3) (cd := kX11_seldom) (ls := [some (vR 0), some (vI p1)]) (rT := tXL) rfl rfl rfl rfl rfl ?_
  refine run_seg (k := 4) (s' := (if σ 104 0 = 0 then (18, [some (vR 0), some (vI p1)], [], σ) else (10, [some (vR 0), some (vI p1)], [], σ))) rfl ?_
  refine run_ite hf (fun _ hf => ?_) (fun _ hf => ?_)
  · exact run_ret hf rfl
  · refine run_seg (k := 2) (s' := (12, [some (vR 0), some (vI p1)], [vI 2, vI p1], σ)) rfl ?_
    refine run_callN (w := fun a => some (vI a)) (m := 207) (as := [vI p1, vI 2]) (pc := 15) (ls := [some (vR 0), some (vI p1)]) (st' := []) (σ := σ) hf rfl (fun _ h => (c_X_isWithin h).mono (by decide)) (fun r1 hf => ?_)
    refine run_seg (k := 1) (s' := (if r1 = 0 then (18, [some (vR 0), some (vI p1)], [], σ) else (26, [some (vR 0), some (vI p1)], [], σ))) rfl ?_
    refine run_ite hf (fun _ hf => ?_) (fun _ hf => ?_)
    · exact run_ret hf rfl
    · refine run_seg (k := 3) (s' := (31, [some (vR 0), some (vI p1)], [vI p1, vR 104], σ)) rfl ?_
      refine run_callN (w := fun a => some (vL a)) (m := 29) (as := [vR 104, vI p1]) (pc := 34) (ls := [some (vR 0), some (vI p1)]) (st' := []) (σ := σ) hf rfl (fun _ h => (c_Fraction_part_104 h).mono (by decide)) (fun r2 hf => ?_)
      exact run_ret hf rfl
/-- BentPenny$Best.secondCoin(I)I -/
def f_Best_secondCoin (p0 : Int) (σ : xSt) : Option (Int) :=
  if p0 < 3 then (some (-1))
  else (some (xdiv (w32 (p0 - 3)) 9))
theorem c_Best_secondCoin {p0 : Int} {σ : xSt} {r : Int} (hf : f_Best_secondCoin p0 σ = some r) : Call (0 + 1) 5 [vI p0] σ ((tI σ) r).1 ((tI σ) r).2 := by
  unfold f_Best_secondCoin at hf
  refine call_of (own := 0) (rk := 1) (cd := kX0_secondCoin) (ls := [some (vI p0)]) (rT := (tI σ)) rfl rfl rfl rfl rfl ?_
  refine run_seg (k := 3) (s' := (if p0 < 3 then (5, [some (vI p0)], [], σ) else (9, [some (vI p0)], [], σ))) rfl ?_
  refine run_ite hf (fun _ hf => ?_) (fun _ hf => ?_)
  · refine run_seg (k := 2) (s' := (15, [some (vI p0)], [vI (-1)], σ)) rfl ?_
    exact run_ret hf rfl
  · refine run_seg (k := 5) (s' := (15, [some (vI p0)], [vI (xdiv (w32 (p0 - 3)) 9)], σ)) rfl ?_
    exact run_ret hf rfl
/-- BentPenny$Best.leafOn(II)I -/
def f_Best_leafOn (p0 : Int) (p1 : Int) (σ : xSt) : Option (Int) :=
  xlet (xrem (w32 (p0 - 3)) 9) fun x1 =>
  if p1 = 0 then (some (xdiv x1 3))
  else (some (xrem x1 3))
theorem c_Best_leafOn {p0 : Int} {p1 : Int} {σ : xSt} {r : Int} (hf : f_Best_leafOn p0 p1 σ = some r) : Call (0 + 1) 6 [vI p0, vI p1] σ ((tI σ) r).1 ((tI σ) r).2 := by
  unfold f_Best_leafOn at hf
  refine call_of (own := 0) (rk := 1) (cd := kX0_leafOn) (ls := [some (vI p0), some (vI p1), none]) (rT := (tI σ)) rfl rfl rfl rfl rfl ?_
  refine run_seg (k := 6) (s' := (7, [some (vI p0), some (vI p1), some (vI (xrem (w32 (p0 - 3)) 9))], [], σ)) rfl ?_
  refine run_let (fun x1 => (7, [some (vI p0), some (vI p1), some (vI x1)], [], σ)) hf (fun x1 hf => ?_)
  refine run_seg (k := 2) (s' := (if p1 = 0 then (11, [some (vI p0), some (vI p1), some (vI x1)], [], σ) else (17, [some (vI p0), some (vI p1), some (vI x1)], [], σ))) rfl ?_
  refine run_ite hf (fun _ hf => ?_) (fun _ hf => ?_)
  · refine run_seg (k := 4) (s' := (20, [some (vI p0), some (vI p1), some (vI x1)], [vI (xdiv x1 3)], σ)) rfl ?_
    exact run_ret hf rfl
  · refine run_seg (k := 3) (s' := (20, [some (vI p0), some (vI p1), some (vI x1)], [vI (xrem x1 3)], σ)) rfl ?_
    exact run_ret hf rfl
def f_Best_partOf_40 (l1 : Int) (l2 : Int) (l3 : Int) (s0 : Int) (σ : xSt) : Option (Int) :=
  xbR (f_Best_leafOn l1 1 σ) fun r4 =>
  if r4 = l2 then (xbR (f_Table_partsOf l3 1 σ) fun r5 =>
  some (w32 (s0 + r5)))
  else (some (w32 (s0 + 0)))
/-- BentPenny$Best.partOf(LBentPenny$Table;II)I -/
def f_Best_partOf (p1 : Int) (p2 : Int) (σ : xSt) : Option (Int) :=
  if p1 < 3 then (if p1 = p2 then (some 1)
  else (some 0))
  else (xbR (f_Best_secondCoin p1 σ) fun r1 =>
  xbR (f_Best_leafOn p1 0 σ) fun r2 =>
  if r2 = p2 then (xbR (f_Table_partsOf r1 0 σ) fun r3 =>
  f_Best_partOf_40 p1 p2 r1 r3 σ)
  else (f_Best_partOf_40 p1 p2 r1 0 σ))
theorem r_Best_partOf_40 {l1 : Int} {l2 : Int} {l3 : Int} {s0 : Int} {g4 : Option xV} {g5 : Option xV} {σ : xSt} {r : Int} (hf : f_Best_partOf_40 l1 l2 l3 s0 σ = some r) : Run 2 0 1 kX0_partOf (40, [some (vR 7), some (vI l1), some (vI l2), some (vI l3), g4, g5], [vI s0], σ) ((tI σ) r) := by
  unfold f_Best_partOf_40 at hf
  refine run_seg (k := 3) (s' := (44, [some (vR 7), some (vI l1), some (vI l2), some (vI l3), some (vI s0), g5], [vI 1, vI l1], σ)) rfl ?_
  refine run_callN (w := fun a => some (vI a)) (m := 6) (as := [vI l1, vI 1]) (pc := 47) (ls := [some (vR 7), some (vI l1), some (vI l2), some (vI l3), some (vI s0), g5]) (st' := []) (σ := σ) hf rfl (fun _ h => (c_Best_leafOn h).mono (by decide)) (fun r4 hf => ?_)
  refine run_seg (k := 2) (s' := (if r4 = l2 then (51, [some (vR 7), some (vI l1), some (vI l2), some (vI l3), some (vI s0), g5], [], σ) else (60, [some (vR 7), some (vI l1), some (vI l2), some (vI l3), some (vI s0), g5], [], σ))) rfl ?_
  refine run_ite hf (fun _ hf => ?_) (fun _ hf => ?_)
  · refine run_seg (k := 3) (s' := (54, [some (vR 7), some (vI l1), some (vI l2), some (vI l3), some (vI s0), g5], [vI 1, vI l3, vR 7], σ)) rfl ?_
    refine run_callN (w := fun a => some (vI a)) (m := 91) (as := [vR 7, vI l3, vI 1]) (pc := 57) (ls := [some (vR 7), some (vI l1), some (vI l2), some (vI l3), some (vI s0), g5]) (st' := []) (σ := σ) hf rfl (fun _ h => (c_Table_partsOf h).mono (by decide)) (fun r5 hf => ?_)
    refine run_seg (k := 5) (s' := (68, [some (vR 7), some (vI l1), some (vI l2), some (vI l3), some (vI s0), some (vI r5)], [vI (w32 (s0 + r5))], σ)) rfl ?_
    exact run_ret hf rfl
  · refine run_seg (k := 5) (s' := (68, [some (vR 7), some (vI l1), some (vI l2), some (vI l3), some (vI s0), some (vI 0)], [vI (w32 (s0 + 0))], σ)) rfl ?_
    exact run_ret hf rfl
theorem c_Best_partOf {p1 : Int} {p2 : Int} {σ : xSt} {r : Int} (hf : f_Best_partOf p1 p2 σ = some r) : Call (2 + 1) 8 [vR 7, vI p1, vI p2] σ ((tI σ) r).1 ((tI σ) r).2 := by
  unfold f_Best_partOf at hf
  refine call_of (own := 0) (rk := 1) (cd := kX0_partOf) (ls := [some (vR 7), some (vI p1), some (vI p2), none, none, none]) (rT := (tI σ)) rfl rfl rfl rfl rfl ?_
  refine run_seg (k := 3) (s' := (if p1 < 3 then (5, [some (vR 7), some (vI p1), some (vI p2), none, none, none], [], σ) else (16, [some (vR 7), some (vI p1), some (vI p2), none, none, none], [], σ))) rfl ?_
  refine run_ite hf (fun _ hf => ?_) (fun _ hf => ?_)
  · refine run_seg (k := 3) (s' := (if p1 = p2 then (10, [some (vR 7), some (vI p1), some (vI p2), none, none, none], [], σ) else (14, [some (vR 7), some (vI p1), some (vI p2), none, none, none], [], σ))) rfl ?_
    refine run_ite hf (fun _ hf => ?_) (fun _ hf => ?_)
    · refine run_seg (k := 2) (s' := (15, [some (vR 7), some (vI p1), some (vI p2), none, none, none], [vI 1], σ)) rfl ?_
      exact run_ret hf rfl
    · refine run_seg (k := 1) (s' := (15, [some (vR 7), some (vI p1), some (vI p2), none, none, none], [vI 0], σ)) rfl ?_
      exact run_ret hf rfl
  · refine run_seg (k := 1) (s' := (17, [some (vR 7), some (vI p1), some (vI p2), none, none, none], [vI p1], σ)) rfl ?_
    refine run_callN (w := fun a => some (vI a)) (m := 5) (as := [vI p1]) (pc := 20) (ls := [some (vR 7), some (vI p1), some (vI p2), none, none, none]) (st' := []) (σ := σ) hf rfl (fun _ h => (c_Best_secondCoin h).mono (by decide)) (fun r1 hf => ?_)
    refine run_seg (k := 3) (s' := (23, [some (vR 7), some (vI p1), some (vI p2), some (vI r1), none, none], [vI 0, vI p1], σ)) rfl ?_
    refine run_callN (w := fun a => some (vI a)) (m := 6) (as := [vI p1, vI 0]) (pc := 26) (ls := [some (vR 7), some (vI p1), some (vI p2), some (vI r1), none, none]) (st' := []) (σ := σ) hf rfl (fun _ h => (c_Best_leafOn h).mono (by decide)) (fun r2 hf => ?_)
    refine run_seg (k := 2) (s' := (if r2 = p2 then (30, [some (vR 7), some (vI p1), some (vI p2), some (vI r1), none, none], [], σ) else (39, [some (vR 7), some (vI p1), some (vI p2), some (vI r1), none, none], [], σ))) rfl ?_
    refine run_ite hf (fun _ hf => ?_) (fun _ hf => ?_)
    · refine run_seg (k := 3) (s' := (33, [some (vR 7), some (vI p1), some (vI p2), some (vI r1), none, none], [vI 0, vI r1, vR 7], σ)) rfl ?_
      refine run_callN (w := fun a => some (vI a)) (m := 91) (as := [vR 7, vI r1, vI 0]) (pc := 36) (ls := [some (vR 7), some (vI p1), some (vI p2), some (vI r1), none, none]) (st' := []) (σ := σ) hf rfl (fun _ h => (c_Table_partsOf h).mono (by decide)) (fun r3 hf => ?_)
      refine run_seg (k := 1) (s' := (40, [some (vR 7), some (vI p1), some (vI p2), some (vI r1), none, none], [vI r3], σ)) rfl ?_
      exact r_Best_partOf_40 hf
    · refine run_seg (k := 1) (s' := (40, [some (vR 7), some (vI p1), some (vI p2), some (vI r1), none, none], [vI 0], σ)) rfl ?_
      exact r_Best_partOf_40 hf
/-- BentPenny$Table.isClosedCoin(I)Z -/
def f_Table_isClosedCoin (p1 : Int) (σ : xSt) : Option (Int) :=
  xbR (f_Table_hasThing p1 σ) fun r1 =>
  if r1 = 0 then (some 0)
  else (if 0 ≤ p1 ∧ p1 < 3 then (
  if σ 9 p1.toNat = 0 then (some 0)
  else (if p1 = σ 7 3 then (some 0)
  else (some 1))) else none)
theorem c_Table_isClosedCoin {p1 : Int} {σ : xSt} {r : Int} (hf : f_Table_isClosedCoin p1 σ = some r) : Call (1 + 1) 92 [vR 7, vI p1] σ ((tI σ) r).1 ((tI σ) r).2 := by
  unfold f_Table_isClosedCoin at hf
  refine call_of (own := 8) (rk := 2) (cd := kX8_isClosedCoin) (ls := [some (vR 7), some (vI p1)]) (rT := (tI σ)) rfl rfl rfl rfl rfl ?_
  refine run_seg (k := 2) (s' := (2, [some (vR 7), some (vI p1)], [vI p1, vR 7], σ)) rfl ?_
  refine run_callN (w := fun a => some (vI a)) (m := 84) (as := [vR 7, vI p1]) (pc := 5) (ls := [some (vR 7), some (vI p1)]) (st' := []) (σ := σ) hf rfl (fun _ h => (c_Table_hasThing h).mono (by decide)) (fun r1 hf => ?_)
  refine run_seg (k := 1) (s' := (if r1 = 0 then (29, [some (vR 7), some (vI p1)], [], σ) else (8, [some (vR 7), some (vI p1)], [], σ))) rfl ?_
  refine run_ite hf (fun _ hf => ?_) (fun _ hf => ?_)
  · refine run_seg (k := 1) (s' := (30, [some (vR 7), some (vI p1)], [vI 0], σ)) rfl ?_
    exact run_ret hf rfl
  · refine run_seg (k := 3) (s' := (13, [some (vR 7), some (vI p1)], [vI p1, vR 9], σ)) rfl ?_
    refine run_guard (s' := (14, [some (vR 7), some (vI p1)], [vI (σ 9 p1.toNat)], σ)) hf rfl (fun hf => ?_)
    refine run_seg (k := 1) (s' := (if σ 9 p1.toNat = 0 then (29, [some (vR 7), some (vI p1)], [], σ) else (17, [some (vR 7), some (vI p1)], [], σ))) rfl ?_
    refine run_ite hf (fun _ hf => ?_) (fun _ hf => ?_)
    · refine run_seg (k := 1) (s' := (30, [some (vR 7), some (vI p1)], [vI 0], σ)) rfl ?_
      exact run_ret hf rfl
    · refine run_seg (k := 4) (s' := (if p1 = σ 7 3 then (29, [some (vR 7), some (vI p1)], [], σ) else (25, [some (vR 7), some (vI p1)], [], σ))) rfl ?_
      refine run_ite hf (fun _ hf => ?_) (fun _ hf => ?_)
      · refine run_seg (k := 1) (s' := (30, [some (vR 7), some (vI p1)], [vI 0], σ)) rfl ?_
        exact run_ret hf rfl
      · refine run_seg (k := 2) (s' := (30, [some (vR 7), some (vI p1)], [vI 1], σ)) rfl ?_
        exact run_ret hf rfl
/-- BentPenny$Best.wholeOf(LBentPenny$Table;I)I -/
def f_Best_wholeOf (p1 : Int) (σ : xSt) : Option (Int) :=
  if p1 < 3 then (some 1)
  else (xbR (f_Best_secondCoin p1 σ) fun r1 =>
  xbR (f_Table_isClosedCoin r1 σ) fun r2 =>
  if r2 = 0 then (some 0)
  else (xbR (f_Table_allParts r1 σ) fun r3 =>
  some r3))
theorem c_Best_wholeOf {p1 : Int} {σ : xSt} {r : Int} (hf : f_Best_wholeOf p1 σ = some r) : Call (2 + 1) 7 [vR 7, vI p1] σ ((tI σ) r).1 ((tI σ) r).2 := by
  unfold f_Best_wholeOf at hf
  refine call_of (own := 0) (rk := 1) (cd := kX0_wholeOf) (ls := [some (vR 7), some (vI p1), none]) (rT := (tI σ)) rfl rfl rfl rfl rfl ?_
  refine run_seg (k := 3) (s' := (if p1 < 3 then (5, [some (vR 7), some (vI p1), none], [], σ) else (7, [some (vR 7), some (vI p1), none], [], σ))) rfl ?_
  refine run_ite hf (fun _ hf => ?_) (fun _ hf => ?_)
  · refine run_seg (k := 1) (s' := (6, [some (vR 7), some (vI p1), none], [vI 1], σ)) rfl ?_
    exact run_ret hf rfl
  · refine run_seg (k := 1) (s' := (8, [some (vR 7), some (vI p1), none], [vI p1], σ)) rfl ?_
    refine run_callN (w := fun a => some (vI a)) (m := 5) (as := [vI p1]) (pc := 11) (ls := [some (vR 7), some (vI p1), none]) (st' := []) (σ := σ) hf rfl (fun _ h => (c_Best_secondCoin h).mono (by decide)) (fun r1 hf => ?_)
    refine run_seg (k := 3) (s' := (14, [some (vR 7), some (vI p1), some (vI r1)], [vI r1, vR 7], σ)) rfl ?_
    refine run_callN (w := fun a => some (vI a)) (m := 92) (as := [vR 7, vI r1]) (pc := 17) (ls := [some (vR 7), some (vI p1), some (vI r1)]) (st' := []) (σ := σ) hf rfl (fun _ h => (c_Table_isClosedCoin h).mono (by decide)) (fun r2 hf => ?_)
    refine run_seg (k := 1) (s' := (if r2 = 0 then (28, [some (vR 7), some (vI p1), some (vI r1)], [], σ) else (20, [some (vR 7), some (vI p1), some (vI r1)], [], σ))) rfl ?_
    refine run_ite hf (fun _ hf => ?_) (fun _ hf => ?_)
    · refine run_seg (k := 1) (s' := (29, [some (vR 7), some (vI p1), some (vI r1)], [vI 0], σ)) rfl ?_
      exact run_ret hf rfl
    · refine run_seg (k := 2) (s' := (22, [some (vR 7), some (vI p1), some (vI r1)], [vI r1, vR 7], σ)) rfl ?_
      refine run_callN (w := fun a => some (vI a)) (m := 90) (as := [vR 7, vI r1]) (pc := 25) (ls := [some (vR 7), some (vI p1), some (vI r1)]) (st' := []) (σ := σ) hf rfl (fun _ h => (c_Table_allParts h).mono (by decide)) (fun r3 hf => ?_)
      refine run_seg (k := 1) (s' := (29, [some (vR 7), some (vI p1), some (vI r1)], [vI r3], σ)) rfl ?_
      exact run_ret hf rfl
/-- BentPenny$Best.thrownAfter(I)I -/
def f_Best_thrownAfter (p0 : Int) (σ : xSt) : Option (Int) :=
  if p0 < 3 then (some 0)
  else (some 1)
theorem c_Best_thrownAfter {p0 : Int} {σ : xSt} {r : Int} (hf : f_Best_thrownAfter p0 σ = some r) : Call (0 + 1) 4 [vI p0] σ ((tI σ) r).1 ((tI σ) r).2 := by
  unfold f_Best_thrownAfter at hf
  refine call_of (own := 0) (rk := 1) (cd := kX0_thrownAfter) (ls := [some (vI p0)]) (rT := (tI σ)) rfl rfl rfl rfl rfl ?_
  refine run_seg (k := 3) (s' := (if p0 < 3 then (5, [some (vI p0)], [], σ) else (9, [some (vI p0)], [], σ))) rfl ?_
  refine run_ite hf (fun _ hf => ?_) (fun _ hf => ?_)
  · refine run_seg (k := 2) (s' := (10, [some (vI p0)], [vI 0], σ)) rfl ?_
    exact run_ret hf rfl
  · refine run_seg (k := 1) (s' := (10, [some (vI p0)], [vI 1], σ)) rfl ?_
    exact run_ret hf rfl
def f_Best_weigh_178 (l1 : Int) (l4 : Int) (l5 : Int) (l13 : Int) (l15 : Int) (σ : xSt) : Option (xSt) :=
  xlet (upS σ 105 8 1) fun σ11 =>
  xlet (upS σ11 105 9 l13) fun σ12 =>
  xlet (upS σ12 105 10 l15) fun σ13 =>
  xlet (upS σ13 105 11 l1) fun σ14 =>
  xlet (upS σ14 105 12 l4) fun σ15 =>
  xlet (upS σ15 105 13 l5) fun σ16 =>
  some σ16
/-- BentPenny$Best.weigh(IIIII)V -/
def f_Best_weigh (p1 : Int) (p2 : Int) (p3 : Int) (p4 : Int) (p5 : Int) (σ : xSt) : Option (xSt) :=
  xbR (f_X_isWithin p4 30 σ) fun r1 =>
  if r1 = 0 then (some σ)
  else (xbR (f_X_isWithin p5 30 σ) fun r2 =>
  if r2 = 0 then (some σ)
  else (if 0 ≤ p5 ∧ p5 < 30 then (
  xlet (w64 (p2 * (σ 109 p5.toNat))) fun x3 =>
  if 0 ≤ p4 ∧ p4 < 30 then (
  xlet (w64 (p3 * (σ 109 p4.toNat))) fun x4 =>
  if 0 ≤ p4 ∧ p4 < 30 then (
  if 0 ≤ p5 ∧ p5 < 30 then (
  xlet (w64 ((w64 (x3 * (σ 107 p4.toNat))) + (w64 (x4 * (σ 107 p5.toNat))))) fun x5 =>
  if xlc x5 0 = 0 then (some σ)
  else (if 0 ≤ p4 ∧ p4 < 30 then (
  if 0 ≤ p5 ∧ p5 < 30 then (
  if xlc x5 (w64 ((w64 (x3 * (σ 108 p4.toNat))) + (w64 (x4 * (σ 108 p5.toNat))))) = 0 then (xbR (f_Best_thrownAfter p4 σ) fun r6 =>
  xbR (f_Best_thrownAfter p5 σ) fun r7 =>
  xlet (w32 ((w32 (p2 * (w32 (1 + r6)))) + (w32 (p3 * (w32 (1 + r7)))))) fun x8 =>
  if 0 ≤ p4 ∧ p4 < 30 then (
  if 0 ≤ p5 ∧ p5 < 30 then (
  xlet (w64 ((w64 (x8 * (σ 109 p4.toNat))) * (σ 109 p5.toNat))) fun x9 =>
  xlet (w64 (2 * x5)) fun x10 =>
  if σ 105 8 = 0 then (f_Best_weigh_178 p1 p4 p5 x9 x10 σ)
  else (if xlc (w64 (x9 * (σ 105 10))) (w64 ((σ 105 9) * x10)) < 0 then (f_Best_weigh_178 p1 p4 p5 x9 x10 σ)
  else (some σ))) else none) else none)
  else (some σ)) else none) else none)) else none) else none) else none) else none))
theorem r_Best_weigh_178 {l1 : Int} {l4 : Int} {l5 : Int} {l13 : Int} {l15 : Int} {g2 : Option xV} {g3 : Option xV} {g6 : Option xV} {g7 : Option xV} {g8 : Option xV} {g9 : Option xV} {g10 : Option xV} {g11 : Option xV} {g12 : Option xV} {σ : xSt} {r : xSt} (hf : f_Best_weigh_178 l1 l4 l5 l13 l15 σ = some r) : Run 1 0 0 kX0_weigh (178, [some (vR 105), some (vI l1), g2, g3, some (vI l4), some (vI l5), g6, g7, g8, g9, g10, g11, g12, some (vL l13), none, some (vL l15), none], [], σ) (tV r) := by
  unfold f_Best_weigh_178 at hf
  refine run_seg (k := 3) (s' := (183, [some (vR 105), some (vI l1), g2, g3, some (vI l4), some (vI l5), g6, g7, g8, g9, g10, g11, g12, some (vL l13), none, some (vL l15), none], [], upS σ 105 8 1)) rfl ?_
  refine run_let (fun σ11 => (183, [some (vR 105), some (vI l1), g2, g3, some (vI l4), some (vI l5), g6, g7, g8, g9, g10, g11, g12, some (vL l13), none, some (vL l15), none], [], σ11)) hf (fun σ11 hf => ?_)
  refine run_seg (k := 3) (s' := (189, [some (vR 105), some (vI l1), g2, g3, some (vI l4), some (vI l5), g6, g7, g8, g9, g10, g11, g12, some (vL l13), none, some (vL l15), none], [], upS σ11 105 9 l13)) rfl ?_
  refine run_let (fun σ12 => (189, [some (vR 105), some (vI l1), g2, g3, some (vI l4), some (vI l5), g6, g7, g8, g9, g10, g11, g12, some (vL l13), none, some (vL l15), none], [], σ12)) hf (fun σ12 hf => ?_)
  refine run_seg (k := 3) (s' := (195, [some (vR 105), some (vI l1), g2, g3, some (vI l4), some (vI l5), g6, g7, g8, g9, g10, g11, g12, some (vL l13), none, some (vL l15), none], [], upS σ12 105 10 l15)) rfl ?_
  refine run_let (fun σ13 => (195, [some (vR 105), some (vI l1), g2, g3, some (vI l4), some (vI l5), g6, g7, g8, g9, g10, g11, g12, some (vL l13), none, some (vL l15), none], [], σ13)) hf (fun σ13 hf => ?_)
  refine run_seg (k := 3) (s' := (200, [some (vR 105), some (vI l1), g2, g3, some (vI l4), some (vI l5), g6, g7, g8, g9, g10, g11, g12, some (vL l13), none, some (vL l15), none], [], upS σ13 105 11 l1)) rfl ?_
  refine run_let (fun σ14 => (200, [some (vR 105), some (vI l1), g2, g3, some (vI l4), some (vI l5), g6, g7, g8, g9, g10, g11, g12, some (vL l13), none, some (vL l15), none], [], σ14)) hf (fun σ14 hf => ?_)
  refine run_seg (k := 3) (s' := (206, [some (vR 105), some (vI l1), g2, g3, some (vI l4), some (vI l5), g6, g7, g8, g9, g10, g11, g12, some (vL l13), none, some (vL l15), none], [], upS σ14 105 12 l4)) rfl ?_
  refine run_let (fun σ15 => (206, [some (vR 105), some (vI l1), g2, g3, some (vI l4), some (vI l5), g6, g7, g8, g9, g10, g11, g12, some (vL l13), none, some (vL l15), none], [], σ15)) hf (fun σ15 hf => ?_)
  refine run_seg (k := 3) (s' := (212, [some (vR 105), some (vI l1), g2, g3, some (vI l4), some (vI l5), g6, g7, g8, g9, g10, g11, g12, some (vL l13), none, some (vL l15), none], [], upS σ15 105 13 l5)) rfl ?_
  refine run_let (fun σ16 => (212, [some (vR 105), some (vI l1), g2, g3, some (vI l4), some (vI l5), g6, g7, g8, g9, g10, g11, g12, some (vL l13), none, some (vL l15), none], [], σ16)) hf (fun σ16 hf => ?_)
  exact run_ret hf rfl
theorem c_Best_weigh {p1 : Int} {p2 : Int} {p3 : Int} {p4 : Int} {p5 : Int} {σ : xSt} {r : xSt} (hf : f_Best_weigh p1 p2 p3 p4 p5 σ = some r) : Call (1 + 1) 3 [vR 105, vI p1, vI p2, vI p3, vI p4, vI p5] σ (tV r).1 (tV r).2 := by
  unfold f_Best_weigh at hf
  refine call_of (own := 0) (rk := 0) (cd := kX0_weigh) (ls := [some (vR 105), some (vI p1), some (vI p2), some (vI p3), some (vI p4), some (vI p5), none, none, none, none, none, none, none, none, none, none, none]) (rT := tV) rfl rfl rfl rfl rfl ?_
  refine run_seg (k := 2) (s' := (4, [some (vR 105), some (vI p1), some (vI p2), some (vI p3), some (vI p4), some (vI p5), none, none, none, none, none, none, none, none, none, none, none], [vI 30, vI p4], σ)) rfl ?_
  refine run_callN (w := fun a => some (vI a)) (m := 207) (as := [vI p4, vI 30]) (pc := 7) (ls := [some (vR 105), some (vI p1), some (vI p2), some (vI p3), some (vI p4), some (vI p5), none, none, none, none, none, none, none, none, none, none, none]) (st' := []) (σ := σ) hf rfl (fun _ h => (c_X_isWithin h).mono (by decide)) (fun r1 hf => ?_)
  refine run_seg (k := 1) (s' := (if r1 = 0 then (20, [some (vR 105), some (vI p1), some (vI p2), some (vI p3), some (vI p4), some (vI p5), none, none, none, none, none, none, none, none, none, none, none], [], σ) else (10, [some (vR 105), some (vI p1), some (vI p2), some (vI p3), some (vI p4), some (vI p5), none, none, none, none, none, none, none, none, none, none, none], [], σ))) rfl ?_
  refine run_ite hf (fun _ hf => ?_) (fun _ hf => ?_)
  · exact run_ret hf rfl
  · refine run_seg (k := 2) (s' := (14, [some (vR 105), some (vI p1), some (vI p2), some (vI p3), some (vI p4), some (vI p5), none, none, none, none, none, none, none, none, none, none, none], [vI 30, vI p5], σ)) rfl ?_
    refine run_callN (w := fun a => some (vI a)) (m := 207) (as := [vI p5, vI 30]) (pc := 17) (ls := [some (vR 105), some (vI p1), some (vI p2), some (vI p3), some (vI p4), some (vI p5), none, none, none, none, none, none, none, none, none, none, none]) (st' := []) (σ := σ) hf rfl (fun _ h => (c_X_isWithin h).mono (by decide)) (fun r2 hf => ?_)
    refine run_seg (k := 1) (s' := (if r2 = 0 then (20, [some (vR 105), some (vI p1), some (vI p2), some (vI p3), some (vI p4), some (vI p5), none, none, none, none, none, none, none, none, none, none, none], [], σ) else (21, [some (vR 105), some (vI p1), some (vI p2), some (vI p3), some (vI p4), some (vI p5), none, none, none, none, none, none, none, none, none, none, none], [], σ))) rfl ?_
    refine run_ite hf (fun _ hf => ?_) (fun _ hf => ?_)
    · exact run_ret hf rfl
    · refine run_seg (k := 5) (s' := (29, [some (vR 105), some (vI p1), some (vI p2), some (vI p3), some (vI p4), some (vI p5), none, none, none, none, none, none, none, none, none, none, none], [vI p5, vR 109, vL p2], σ)) rfl ?_
      refine run_guard (s' := (30, [some (vR 105), some (vI p1), some (vI p2), some (vI p3), some (vI p4), some (vI p5), none, none, none, none, none, none, none, none, none, none, none], [vL (σ 109 p5.toNat), vL p2], σ)) hf rfl (fun hf => ?_)
      refine run_seg (k := 2) (s' := (33, [some (vR 105), some (vI p1), some (vI p2), some (vI p3), some (vI p4), some (vI p5), some (vL (w64 (p2 * (σ 109 p5.toNat)))), none, none, none, none, none, none, none, none, none, none], [], σ)) rfl ?_
      refine run_let (fun x3 => (33, [some (vR 105), some (vI p1), some (vI p2), some (vI p3), some (vI p4), some (vI p5), some (vL x3), none, none, none, none, none, none, none, none, none, none], [], σ)) hf (fun x3 hf => ?_)
      refine run_seg (k := 5) (s' := (41, [some (vR 105), some (vI p1), some (vI p2), some (vI p3), some (vI p4), some (vI p5), some (vL x3), none, none, none, none, none, none, none, none, none, none], [vI p4, vR 109, vL p3], σ)) rfl ?_
      refine run_guard (s' := (42, [some (vR 105), some (vI p1), some (vI p2), some (vI p3), some (vI p4), some (vI p5), some (vL x3), none, none, none, none, none, none, none, none, none, none], [vL (σ 109 p4.toNat), vL p3], σ)) hf rfl (fun hf => ?_)
      refine run_seg (k := 2) (s' := (45, [some (vR 105), some (vI p1), some (vI p2), some (vI p3), some (vI p4), some (vI p5), some (vL x3), none, some (vL (w64 (p3 * (σ 109 p4.toNat)))), none, none, none, none, none, none, none, none], [], σ)) rfl ?_
      refine run_let (fun x4 => (45, [some (vR 105), some (vI p1), some (vI p2), some (vI p3), some (vI p4), some (vI p5), some (vL x3), none, some (vL x4), none, none, none, none, none, none, none, none], [], σ)) hf (fun x4 hf => ?_)
      refine run_seg (k := 4) (s' := (53, [some (vR 105), some (vI p1), some (vI p2), some (vI p3), some (vI p4), some (vI p5), some (vL x3), none, some (vL x4), none, none, none, none, none, none, none, none], [vI p4, vR 107, vL x3], σ)) rfl ?_
      refine run_guard (s' := (54, [some (vR 105), some (vI p1), some (vI p2), some (vI p3), some (vI p4), some (vI p5), some (vL x3), none, some (vL x4), none, none, none, none, none, none, none, none], [vL (σ 107 p4.toNat), vL x3], σ)) hf rfl (fun hf => ?_)
      refine run_seg (k := 5) (s' := (63, [some (vR 105), some (vI p1), some (vI p2), some (vI p3), some (vI p4), some (vI p5), some (vL x3), none, some (vL x4), none, none, none, none, none, none, none, none], [vI p5, vR 107, vL x4, vL (w64 (x3 * (σ 107 p4.toNat)))], σ)) rfl ?_
      refine run_guard (s' := (64, [some (vR 105), some (vI p1), some (vI p2), some (vI p3), some (vI p4), some (vI p5), some (vL x3), none, some (vL x4), none, none, none, none, none, none, none, none], [vL (σ 107 p5.toNat), vL x4, vL (w64 (x3 * (σ 107 p4.toNat)))], σ)) hf rfl (fun hf => ?_)
      refine run_seg (k := 3) (s' := (68, [some (vR 105), some (vI p1), some (vI p2), some (vI p3), some (vI p4), some (vI p5), some (vL x3), none, some (vL x4), none, some (vL (w64 ((w64 (x3 * (σ 107 p4.toNat))) + (w64 (x4 * (σ 107 p5.toNat)))))), none, none, none, none, none, none], [], σ)) rfl ?_
      refine run_let (fun x5 => (68, [some (vR 105), some (vI p1), some (vI p2), some (vI p3), some (vI p4), some (vI p5), some (vL x3), none, some (vL x4), none, some (vL x5), none, none, none, none, none, none], [], σ)) hf (fun x5 hf => ?_)
      refine run_seg (k := 4) (s' := (if xlc x5 0 = 0 then (102, [some (vR 105), some (vI p1), some (vI p2), some (vI p3), some (vI p4), some (vI p5), some (vL x3), none, some (vL x4), none, some (vL x5), none, none, none, none, none, none], [], σ) else (75, [some (vR 105), some (vI p1), some (vI p2), some (vI p3), some (vI p4), some (vI p5), some (vL x3), none, some (vL x4), none, some (vL x5), none, none, none, none, none, none], [], σ))) rfl ?_
      refine run_ite hf (fun _ hf => ?_) (fun _ hf => ?_)
      · exact run_ret hf rfl
      · refine run_seg (k := 5) (s' := (85, [some (vR 105), some (vI p1), some (vI p2), some (vI p3), some (vI p4), some (vI p5), some (vL x3), none, some (vL x4), none, some (vL x5), none, none, none, none, none, none], [vI p4, vR 108, vL x3, vL x5], σ)) rfl ?_
        refine run_guard (s' := (86, [some (vR 105), some (vI p1), some (vI p2), some (vI p3), some (vI p4), some (vI p5), some (vL x3), none, some (vL x4), none, some (vL x5), none, none, none, none, none, none], [vL (σ 108 p4.toNat), vL x3, vL x5], σ)) hf rfl (fun hf => ?_)
        refine run_seg (k := 5) (s' := (95, [some (vR 105), some (vI p1), some (vI p2), some (vI p3), some (vI p4), some (vI p5), some (vL x3), none, some (vL x4), none, some (vL x5), none, none, none, none, none, none], [vI p5, vR 108, vL x4, vL (w64 (x3 * (σ 108 p4.toNat))), vL x5], σ)) rfl ?_
        refine run_guard (s' := (96, [some (vR 105), some (vI p1), some (vI p2), some (vI p3), some (vI p4), some (vI p5), some (vL x3), none, some (vL x4), none, some (vL x5), none, none, none, none, none, none], [vL (σ 108 p5.toNat), vL x4, vL (w64 (x3 * (σ 108 p4.toNat))), vL x5], σ)) hf rfl (fun hf => ?_)
        refine run_seg (k := 4) (s' := (if xlc x5 (w64 ((w64 (x3 * (σ 108 p4.toNat))) + (w64 (x4 * (σ 108 p5.toNat))))) = 0 then (103, [some (vR 105), some (vI p1), some (vI p2), some (vI p3), some (vI p4), some (vI p5), some (vL x3), none, some (vL x4), none, some (vL x5), none, none, none, none, none, none], [], σ) else (102, [some (vR 105), some (vI p1), some (vI p2), some (vI p3), some (vI p4), some (vI p5), some (vL x3), none, some (vL x4), none, some (vL x5), none, none, none, none, none, none], [], σ))) rfl ?_
        refine run_ite hf (fun _ hf => ?_) (fun _ hf => ?_)
        · refine run_seg (k := 3) (s' := (107, [some (vR 105), some (vI p1), some (vI p2), some (vI p3), some (vI p4), some (vI p5), some (vL x3), none, some (vL x4), none, some (vL x5), none, none, none, none, none, none], [vI p4, vI 1, vI p2], σ)) rfl ?_
          refine run_callN (w := fun a => some (vI a)) (m := 4) (as := [vI p4]) (pc := 110) (ls := [some (vR 105), some (vI p1), some (vI p2), some (vI p3), some (vI p4), some (vI p5), some (vL x3), none, some (vL x4), none, some (vL x5), none, none, none, none, none, none]) (st' := [vI 1, vI p2]) (σ := σ) hf rfl (fun _ h => (c_Best_thrownAfter h).mono (by decide)) (fun r6 hf => ?_)
          refine run_seg (k := 5) (s' := (116, [some (vR 105), some (vI p1), some (vI p2), some (vI p3), some (vI p4), some (vI p5), some (vL x3), none, some (vL x4), none, some (vL x5), none, none, none, none, none, none], [vI p5, vI 1, vI p3, vI (w32 (p2 * (w32 (1 + r6))))], σ)) rfl ?_
          refine run_callN (w := fun a => some (vI a)) (m := 4) (as := [vI p5]) (pc := 119) (ls := [some (vR 105), some (vI p1), some (vI p2), some (vI p3), some (vI p4), some (vI p5), some (vL x3), none, some (vL x4), none, some (vL x5), none, none, none, none, none, none]) (st' := [vI 1, vI p3, vI (w32 (p2 * (w32 (1 + r6))))]) (σ := σ) hf rfl (fun _ h => (c_Best_thrownAfter h).mono (by decide)) (fun r7 hf => ?_)
          refine run_seg (k := 4) (s' := (124, [some (vR 105), some (vI p1), some (vI p2), some (vI p3), some (vI p4), some (vI p5), some (vL x3), none, some (vL x4), none, some (vL x5), none, some (vI (w32 ((w32 (p2 * (w32 (1 + r6)))) + (w32 (p3 * (w32 (1 + r7))))))), none, none, none, none], [], σ)) rfl ?_
          refine run_let (fun x8 => (124, [some (vR 105), some (vI p1), some (vI p2), some (vI p3), some (vI p4), some (vI p5), some (vL x3), none, some (vL x4), none, some (vL x5), none, some (vI x8), none, none, none, none], [], σ)) hf (fun x8 hf => ?_)
          refine run_seg (k := 5) (s' := (133, [some (vR 105), some (vI p1), some (vI p2), some (vI p3), some (vI p4), some (vI p5), some (vL x3), none, some (vL x4), none, some (vL x5), none, some (vI x8), none, none, none, none], [vI p4, vR 109, vL x8], σ)) rfl ?_
          refine run_guard (s' := (134, [some (vR 105), some (vI p1), some (vI p2), some (vI p3), some (vI p4), some (vI p5), some (vL x3), none, some (vL x4), none, some (vL x5), none, some (vI x8), none, none, none, none], [vL (σ 109 p4.toNat), vL x8], σ)) hf rfl (fun hf => ?_)
          refine run_seg (k := 4) (s' := (141, [some (vR 105), some (vI p1), some (vI p2), some (vI p3), some (vI p4), some (vI p5), some (vL x3), none, some (vL x4), none, some (vL x5), none, some (vI x8), none, none, none, none], [vI p5, vR 109, vL (w64 (x8 * (σ 109 p4.toNat)))], σ)) rfl ?_
          refine run_guard (s' := (142, [some (vR 105), some (vI p1), some (vI p2), some (vI p3), some (vI p4), some (vI p5), some (vL x3), none, some (vL x4), none, some (vL x5), none, some (vI x8), none, none, none, none], [vL (σ 109 p5.toNat), vL (w64 (x8 * (σ 109 p4.toNat)))], σ)) hf rfl (fun hf => ?_)
          refine run_seg (k := 2) (s' := (145, [some (vR 105), some (vI p1), some (vI p2), some (vI p3), some (vI p4), some (vI p5), some (vL x3), none, some (vL x4), none, some (vL x5), none, some (vI x8), some (vL (w64 ((w64 (x8 * (σ 109 p4.toNat))) * (σ 109 p5.toNat)))), none, none, none], [], σ)) rfl ?_
          refine run_let (fun x9 => (145, [some (vR 105), some (vI p1), some (vI p2), some (vI p3), some (vI p4), some (vI p5), some (vL x3), none, some (vL x4), none, some (vL x5), none, some (vI x8), some (vL x9), none, none, none], [], σ)) hf (fun x9 hf => ?_)
          refine run_seg (k := 4) (s' := (153, [some (vR 105), some (vI p1), some (vI p2), some (vI p3), some (vI p4), some (vI p5), some (vL x3), none, some (vL x4), none, some (vL x5), none, some (vI x8), some (vL x9), none, some (vL (w64 (2 * x5))), none], [], σ)) rfl ?_
          refine run_let (fun x10 => (153, [some (vR 105), some (vI p1), some (vI p2), some (vI p3), some (vI p4), some (vI p5), some (vL x3), none, some (vL x4), none, some (vL x5), none, some (vI x8), some (vL x9), none, some (vL x10), none], [], σ)) hf (fun x10 hf => ?_)
          refine run_seg (k := 3) (s' := (if σ 105 8 = 0 then (178, [some (vR 105), some (vI p1), some (vI p2), some (vI p3), some (vI p4), some (vI p5), some (vL x3), none, some (vL x4), none, some (vL x5), none, some (vI x8), some (vL x9), none, some (vL x10), none], [], σ) else (160, [some (vR 105), some (vI p1), some (vI p2), some (vI p3), some (vI p4), some (vI p5), some (vL x3), none, some (vL x4), none, some (vL x5), none, some (vI x8), some (vL x9), none, some (vL x10), none], [], σ))) rfl ?_
          refine run_ite hf (fun _ hf => ?_) (fun _ hf => ?_)
          · exact r_Best_weigh_178 hf
          · refine run_seg (k := 10) (s' := (if xlc (w64 (x9 * (σ 105 10))) (w64 ((σ 105 9) * x10)) < 0 then (178, [some (vR 105), some (vI p1), some (vI p2), some (vI p3), some (vI p4), some (vI p5), some (vL x3), none, some (vL x4), none, some (vL x5), none, some (vI x8), some (vL x9), none, some (vL x10), none], [], σ) else (212, [some (vR 105), some (vI p1), some (vI p2), some (vI p3), some (vI p4), some (vI p5), some (vL x3), none, some (vL x4), none, some (vL x5), none, some (vI x8), some (vL x9), none, some (vL x10), none], [], σ))) rfl ?_
            refine run_ite hf (fun _ hf => ?_) (fun _ hf => ?_)
            · exact r_Best_weigh_178 hf
            · exact run_ret hf rfl
        · exact run_ret hf rfl
def f_Best_searchCoin_13 (k3 : (Int → Int → Int → Int → xSt → Option (xSt))) : Nat → Int → Int → Int → Int → Int → xSt → Option (xSt)
  | 0, _, _, _, _, _, _ => none
  | n + 1, l1, l2, l3, l4, l5, σ =>
    if l5 < 30 then (if 0 ≤ l4 ∧ l4 < 30 then (
    if 0 < xlc (σ 109 l4.toNat) 0 then (if 0 ≤ l5 ∧ l5 < 30 then (
    if 0 < xlc (σ 109 l5.toNat) 0 then (xbR (f_Best_weigh l1 l2 l3 l4 l5 σ) fun σ1 =>
    xlet (w32 (l5 + 1)) fun x2 =>
    f_Best_searchCoin_13 k3 n l1 l2 l3 l4 x2 σ1)
    else (xlet (w32 (l5 + 1)) fun x3 =>
    f_Best_searchCoin_13 k3 n l1 l2 l3 l4 x3 σ)) else none)
    else (xlet (w32 (l4 + 1)) fun x4 =>
    k3 l1 l2 l3 x4 σ)) else none)
    else (xlet (w32 (l4 + 1)) fun x5 =>
    k3 l1 l2 l3 x5 σ)
def f_Best_searchCoin_3 : Nat → Int → Int → Int → Int → xSt → Option (xSt)
  | 0, _, _, _, _, _ => none
  | n + 1, l1, l2, l3, l4, σ =>
    if l4 < 30 then (f_Best_searchCoin_13 (fun z0 z1 z2 z3 sz => f_Best_searchCoin_3 n z0 z1 z2 z3 sz) 1000000 l1 l2 l3 l4 0 σ)
    else (some σ)
/-- BentPenny$Best.searchCoin(III)V -/
def f_Best_searchCoin (p1 : Int) (p2 : Int) (p3 : Int) (σ : xSt) : Option (xSt) :=
  f_Best_searchCoin_3 1000000 p1 p2 p3 0 σ
theorem r_Best_searchCoin_13 {k3 : (Int → Int → Int → Int → xSt → Option (xSt))} (hk3 : ∀ {l1 : Int} {l2 : Int} {l3 : Int} {l4 : Int} {g5 : Option xV} {σ : xSt} {r : xSt}, k3 l1 l2 l3 l4 σ = some r → Run 2 0 0 kX0_searchCoin (3, [some (vR 105), some (vI l1), some (vI l2), some (vI l3), some (vI l4), g5], [], σ) (tV r)) : ∀ (n : Nat) {l1 : Int} {l2 : Int} {l3 : Int} {l4 : Int} {l5 : Int} {σ : xSt} {r : xSt}, f_Best_searchCoin_13 k3 n l1 l2 l3 l4 l5 σ = some r → Run 2 0 0 kX0_searchCoin (13, [some (vR 105), some (vI l1), some (vI l2), some (vI l3), some (vI l4), some (vI l5)], [], σ) (tV r) := by
  intro n
  induction n with
  | zero =>
    intro _ _ _ _ _ _ _ h
    exact nomatch (show (none : Option (xSt)) = some _ from h)
  | succ n ih =>
    intro l1 l2 l3 l4 l5 σ r hf
    unfold f_Best_searchCoin_13 at hf
    refine run_seg (k := 3) (s' := (if l5 < 30 then (20, [some (vR 105), some (vI l1), some (vI l2), some (vI l3), some (vI l4), some (vI l5)], [], σ) else (61, [some (vR 105), some (vI l1), some (vI l2), some (vI l3), some (vI l4), some (vI l5)], [], σ))) rfl ?_
    refine run_ite hf (fun _ hf => ?_) (fun _ hf => ?_)
    · refine run_seg (k := 3) (s' := (26, [some (vR 105), some (vI l1), some (vI l2), some (vI l3), some (vI l4), some (vI l5)], [vI l4, vR 109], σ)) rfl ?_
      refine run_guard (s' := (27, [some (vR 105), some (vI l1), some (vI l2), some (vI l3), some (vI l4), some (vI l5)], [vL (σ 109 l4.toNat)], σ)) hf rfl (fun hf => ?_)
      refine run_seg (k := 3) (s' := (if 0 < xlc (σ 109 l4.toNat) 0 then (32, [some (vR 105), some (vI l1), some (vI l2), some (vI l3), some (vI l4), some (vI l5)], [], σ) else (61, [some (vR 105), some (vI l1), some (vI l2), some (vI l3), some (vI l4), some (vI l5)], [], σ))) rfl ?_
      refine run_ite hf (fun _ hf => ?_) (fun _ hf => ?_)
      · refine run_seg (k := 3) (s' := (38, [some (vR 105), some (vI l1), some (vI l2), some (vI l3), some (vI l4), some (vI l5)], [vI l5, vR 109], σ)) rfl ?_
        refine run_guard (s' := (39, [some (vR 105), some (vI l1), some (vI l2), some (vI l3), some (vI l4), some (vI l5)], [vL (σ 109 l5.toNat)], σ)) hf rfl (fun hf => ?_)
        refine run_seg (k := 3) (s' := (if 0 < xlc (σ 109 l5.toNat) 0 then (44, [some (vR 105), some (vI l1), some (vI l2), some (vI l3), some (vI l4), some (vI l5)], [], σ) else (55, [some (vR 105), some (vI l1), some (vI l2), some (vI l3), some (vI l4), some (vI l5)], [], σ))) rfl ?_
        refine run_ite hf (fun _ hf => ?_) (fun _ hf => ?_)
        · refine run_seg (k := 6) (s' := (52, [some (vR 105), some (vI l1), some (vI l2), some (vI l3), some (vI l4), some (vI l5)], [vI l5, vI l4, vI l3, vI l2, vI l1, vR 105], σ)) rfl ?_
          refine run_callV (m := 3) (as := [vR 105, vI l1, vI l2, vI l3, vI l4, vI l5]) (pc := 55) (ls := [some (vR 105), some (vI l1), some (vI l2), some (vI l3), some (vI l4), some (vI l5)]) (st' := []) (σ := σ) hf rfl (fun _ h => (c_Best_weigh h).mono (by decide)) (fun σ1 hf => ?_)
          refine run_seg (k := 1) (s' := (58, [some (vR 105), some (vI l1), some (vI l2), some (vI l3), some (vI l4), some (vI (w32 (l5 + 1)))], [], σ1)) rfl ?_
          refine run_let (fun x2 => (58, [some (vR 105), some (vI l1), some (vI l2), some (vI l3), some (vI l4), some (vI x2)], [], σ1)) hf (fun x2 hf => ?_)
          refine run_seg (k := 1) (s' := (13, [some (vR 105), some (vI l1), some (vI l2), some (vI l3), some (vI l4), some (vI x2)], [], σ1)) rfl ?_
          exact ih hf
        · refine run_seg (k := 1) (s' := (58, [some (vR 105), some (vI l1), some (vI l2), some (vI l3), some (vI l4), some (vI (w32 (l5 + 1)))], [], σ)) rfl ?_
          refine run_let (fun x3 => (58, [some (vR 105), some (vI l1), some (vI l2), some (vI l3), some (vI l4), some (vI x3)], [], σ)) hf (fun x3 hf => ?_)
          refine run_seg (k := 1) (s' := (13, [some (vR 105), some (vI l1), some (vI l2), some (vI l3), some (vI l4), some (vI x3)], [], σ)) rfl ?_
          exact ih hf
      · refine run_seg (k := 1) (s' := (64, [some (vR 105), some (vI l1), some (vI l2), some (vI l3), some (vI (w32 (l4 + 1))), some (vI l5)], [], σ)) rfl ?_
        refine run_let (fun x4 => (64, [some (vR 105), some (vI l1), some (vI l2), some (vI l3), some (vI x4), some (vI l5)], [], σ)) hf (fun x4 hf => ?_)
        refine run_seg (k := 1) (s' := (3, [some (vR 105), some (vI l1), some (vI l2), some (vI l3), some (vI x4), some (vI l5)], [], σ)) rfl ?_
        exact hk3 hf
    · refine run_seg (k := 1) (s' := (64, [some (vR 105), some (vI l1), some (vI l2), some (vI l3), some (vI (w32 (l4 + 1))), some (vI l5)], [], σ)) rfl ?_
      refine run_let (fun x5 => (64, [some (vR 105), some (vI l1), some (vI l2), some (vI l3), some (vI x5), some (vI l5)], [], σ)) hf (fun x5 hf => ?_)
      refine run_seg (k := 1) (s' := (3, [some (vR 105), some (vI l1), some (vI l2), some (vI l3), some (vI x5), some (vI l5)], [], σ)) rfl ?_
      exact hk3 hf
theorem r_Best_searchCoin_3 : ∀ (n : Nat) {l1 : Int} {l2 : Int} {l3 : Int} {l4 : Int} {g5 : Option xV} {σ : xSt} {r : xSt}, f_Best_searchCoin_3 n l1 l2 l3 l4 σ = some r → Run 2 0 0 kX0_searchCoin (3, [some (vR 105), some (vI l1), some (vI l2), some (vI l3), some (vI l4), g5], [], σ) (tV r) := by
  intro n
  induction n with
  | zero =>
    intro _ _ _ _ _ _ _ h
    exact nomatch (show (none : Option (xSt)) = some _ from h)
  | succ n ih =>
    intro l1 l2 l3 l4 g5 σ r hf
    unfold f_Best_searchCoin_3 at hf
    refine run_seg (k := 3) (s' := (if l4 < 30 then (10, [some (vR 105), some (vI l1), some (vI l2), some (vI l3), some (vI l4), g5], [], σ) else (67, [some (vR 105), some (vI l1), some (vI l2), some (vI l3), some (vI l4), g5], [], σ))) rfl ?_
    refine run_ite hf (fun _ hf => ?_) (fun _ hf => ?_)
    · refine run_seg (k := 2) (s' := (13, [some (vR 105), some (vI l1), some (vI l2), some (vI l3), some (vI l4), some (vI 0)], [], σ)) rfl ?_
      exact r_Best_searchCoin_13 (fun h => ih h) 1000000 hf
    · exact run_ret hf rfl
theorem c_Best_searchCoin {p1 : Int} {p2 : Int} {p3 : Int} {σ : xSt} {r : xSt} (hf : f_Best_searchCoin p1 p2 p3 σ = some r) : Call (2 + 1) 2 [vR 105, vI p1, vI p2, vI p3] σ (tV r).1 (tV r).2 := by
  unfold f_Best_searchCoin at hf
  refine call_of (own := 0) (rk := 0) (cd := kX0_searchCoin) (ls := [some (vR 105), some (vI p1), some (vI p2), some (vI p3), none, none]) (rT := tV) rfl rfl rfl rfl rfl ?_
  refine run_seg (k := 2) (s' := (3, [some (vR 105), some (vI p1), some (vI p2), some (vI p3), some (vI 0), none], [], σ)) rfl ?_
  exact r_Best_searchCoin_3 1000000 hf
def f_Best_search_106 (σ : xSt) : Option (Int × xSt) :=
  if σ 105 8 = 0 then (some ((-1), σ))
  else (xbW (f_Fraction_put 106 (σ 105 9) (σ 105 10) σ) fun r15 σ16 =>
  if r15 = 0 then (some ((-1), σ16))
  else (xlet (upS σ16 105 1 (σ16 7 0)) fun σ17 =>
  xlet (upS σ17 105 2 (σ17 105 11)) fun σ18 =>
  xlet (upS σ18 105 3 (σ18 105 12)) fun σ19 =>
  xlet (upS σ19 105 4 (σ19 105 13)) fun σ20 =>
  xbR (f_Best_thrownAfter (σ20 105 3) σ20) fun r21 =>
  xbR (f_Best_thrownAfter (σ20 105 4) σ20) fun r22 =>
  some (w32 ((w32 (3 + (w32 (2 * r21)))) + (w32 (2 * r22))), σ20)))
def f_Best_search_59 : Nat → Int → xSt → Option (Int × xSt)
  | 0, _, _ => none
  | n + 1, l2, σ =>
    if l2 < σ 7 1 then (if σ 7 2 < 2 then (f_Best_search_106 σ)
    else (xbR (f_Table_isClosedCoin l2 σ) fun r9 =>
    if r9 = 0 then (xlet (w32 (l2 + 1)) fun x10 =>
    f_Best_search_59 n x10 σ)
    else (xbR (f_Table_partsOf l2 0 σ) fun r11 =>
    xbR (f_Table_partsOf l2 1 σ) fun r12 =>
    xbR (f_Best_searchCoin l2 r11 r12 σ) fun σ13 =>
    xlet (w32 (l2 + 1)) fun x14 =>
    f_Best_search_59 n x14 σ13)))
    else (f_Best_search_106 σ)
def f_Best_search_7 : Nat → Int → xSt → Option (Int × xSt)
  | 0, _, _ => none
  | n + 1, l2, σ =>
    if l2 < 30 then (xbR (f_Best_partOf l2 0 σ) fun r2 =>
    if 0 ≤ l2 ∧ l2 < 30 then (
    xlet (upS σ 107 l2.toNat r2) fun σ3 =>
    xbR (f_Best_partOf l2 1 σ3) fun r4 =>
    if 0 ≤ l2 ∧ l2 < 30 then (
    xlet (upS σ3 108 l2.toNat r4) fun σ5 =>
    xbR (f_Best_wholeOf l2 σ5) fun r6 =>
    if 0 ≤ l2 ∧ l2 < 30 then (
    xlet (upS σ5 109 l2.toNat r6) fun σ7 =>
    xlet (w32 (l2 + 1)) fun x8 =>
    f_Best_search_7 n x8 σ7) else none) else none) else none)
    else (f_Best_search_59 1000000 0 σ)
/-- BentPenny$Best.search(LBentPenny$Table;)I -/
def f_Best_search (σ : xSt) : Option (Int × xSt) :=
  xlet (upS σ 105 8 0) fun σ1 =>
  f_Best_search_7 1000000 0 σ1
theorem r_Best_search_106 {g2 : Option xV} {σ : xSt} {r : Int × xSt} (hf : f_Best_search_106 σ = some r) : Run 3 0 1 kX0_search (106, [some (vR 105), some (vR 7), g2], [], σ) (tIW r) := by
  unfold f_Best_search_106 at hf
  refine run_seg (k := 3) (s' := (if σ 105 8 = 0 then (131, [some (vR 105), some (vR 7), g2], [], σ) else (113, [some (vR 105), some (vR 7), g2], [], σ))) rfl ?_
  refine run_ite hf (fun _ hf => ?_) (fun _ hf => ?_)
  · refine run_seg (k := 1) (s' := (132, [some (vR 105), some (vR 7), g2], [vI (-1)], σ)) rfl ?_
    exact run_ret hf rfl
  · refine run_seg (k := 6) (s' := (125, [some (vR 105), some (vR 7), g2], [vL (σ 105 10), vL (σ 105 9), vR 106], σ)) rfl ?_
    refine run_callW (w := fun a => some (vI a)) (m := 28) (as := [vR 106, vL (σ 105 9), vL (σ 105 10)]) (pc := 128) (ls := [some (vR 105), some (vR 7), g2]) (st' := []) (σ := σ) hf rfl (fun _ _ h => (c_Fraction_put_106 h).mono (by decide)) (fun r15 σ16 hf => ?_)
    refine run_seg (k := 1) (s' := (if r15 = 0 then (131, [some (vR 105), some (vR 7), g2], [], σ16) else (133, [some (vR 105), some (vR 7), g2], [], σ16))) rfl ?_
    refine run_ite hf (fun _ hf => ?_) (fun _ hf => ?_)
    · refine run_seg (k := 1) (s' := (132, [some (vR 105), some (vR 7), g2], [vI (-1)], σ16)) rfl ?_
      exact run_ret hf rfl
    · refine run_seg (k := 4) (s' := (141, [some (vR 105), some (vR 7), g2], [], upS σ16 105 1 (σ16 7 0))) rfl ?_
      refine run_let (fun σ17 => (141, [some (vR 105), some (vR 7), g2], [], σ17)) hf (fun σ17 hf => ?_)
      refine run_seg (k := 4) (s' := (149, [some (vR 105), some (vR 7), g2], [], upS σ17 105 2 (σ17 105 11))) rfl ?_
      refine run_let (fun σ18 => (149, [some (vR 105), some (vR 7), g2], [], σ18)) hf (fun σ18 hf => ?_)
      refine run_seg (k := 4) (s' := (157, [some (vR 105), some (vR 7), g2], [], upS σ18 105 3 (σ18 105 12))) rfl ?_
      refine run_let (fun σ19 => (157, [some (vR 105), some (vR 7), g2], [], σ19)) hf (fun σ19 hf => ?_)
      refine run_seg (k := 4) (s' := (165, [some (vR 105), some (vR 7), g2], [], upS σ19 105 4 (σ19 105 13))) rfl ?_
      refine run_let (fun σ20 => (165, [some (vR 105), some (vR 7), g2], [], σ20)) hf (fun σ20 hf => ?_)
      refine run_seg (k := 4) (s' := (171, [some (vR 105), some (vR 7), g2], [vI (σ20 105 3), vI 2, vI 3], σ20)) rfl ?_
      refine run_callN (w := fun a => some (vI a)) (m := 4) (as := [vI (σ20 105 3)]) (pc := 174) (ls := [some (vR 105), some (vR 7), g2]) (st' := [vI 2, vI 3]) (σ := σ20) hf rfl (fun _ h => (c_Best_thrownAfter h).mono (by decide)) (fun r21 hf => ?_)
      refine run_seg (k := 5) (s' := (181, [some (vR 105), some (vR 7), g2], [vI (σ20 105 4), vI 2, vI (w32 (3 + (w32 (2 * r21))))], σ20)) rfl ?_
      refine run_callN (w := fun a => some (vI a)) (m := 4) (as := [vI (σ20 105 4)]) (pc := 184) (ls := [some (vR 105), some (vR 7), g2]) (st' := [vI 2, vI (w32 (3 + (w32 (2 * r21))))]) (σ := σ20) hf rfl (fun _ h => (c_Best_thrownAfter h).mono (by decide)) (fun r22 hf => ?_)
      refine run_seg (k := 2) (s' := (186, [some (vR 105), some (vR 7), g2], [vI (w32 ((w32 (3 + (w32 (2 * r21)))) + (w32 (2 * r22))))], σ20)) rfl ?_
      exact run_ret hf rfl
theorem r_Best_search_59 : ∀ (n : Nat) {l2 : Int} {σ : xSt} {r : Int × xSt}, f_Best_search_59 n l2 σ = some r → Run 3 0 1 kX0_search (59, [some (vR 105), some (vR 7), some (vI l2)], [], σ) (tIW r) := by
  intro n
  induction n with
  | zero =>
    intro _ _ _ h
    exact nomatch (show (none : Option (Int × xSt)) = some _ from h)
  | succ n ih =>
    intro l2 σ r hf
    unfold f_Best_search_59 at hf
    refine run_seg (k := 4) (s' := (if l2 < σ 7 1 then (67, [some (vR 105), some (vR 7), some (vI l2)], [], σ) else (106, [some (vR 105), some (vR 7), some (vI l2)], [], σ))) rfl ?_
    refine run_ite hf (fun _ hf => ?_) (fun _ hf => ?_)
    · refine run_seg (k := 4) (s' := (if σ 7 2 < 2 then (106, [some (vR 105), some (vR 7), some (vI l2)], [], σ) else (75, [some (vR 105), some (vR 7), some (vI l2)], [], σ))) rfl ?_
      refine run_ite hf (fun _ hf => ?_) (fun _ hf => ?_)
      · exact r_Best_search_106 hf
      · refine run_seg (k := 2) (s' := (77, [some (vR 105), some (vR 7), some (vI l2)], [vI l2, vR 7], σ)) rfl ?_
        refine run_callN (w := fun a => some (vI a)) (m := 92) (as := [vR 7, vI l2]) (pc := 80) (ls := [some (vR 105), some (vR 7), some (vI l2)]) (st' := []) (σ := σ) hf rfl (fun _ h => (c_Table_isClosedCoin h).mono (by decide)) (fun r9 hf => ?_)
        refine run_seg (k := 1) (s' := (if r9 = 0 then (100, [some (vR 105), some (vR 7), some (vI l2)], [], σ) else (83, [some (vR 105), some (vR 7), some (vI l2)], [], σ))) rfl ?_
        refine run_ite hf (fun _ hf => ?_) (fun _ hf => ?_)
        · refine run_seg (k := 1) (s' := (103, [some (vR 105), some (vR 7), some (vI (w32 (l2 + 1)))], [], σ)) rfl ?_
          refine run_let (fun x10 => (103, [some (vR 105), some (vR 7), some (vI x10)], [], σ)) hf (fun x10 hf => ?_)
          refine run_seg (k := 1) (s' := (59, [some (vR 105), some (vR 7), some (vI x10)], [], σ)) rfl ?_
          exact ih hf
        · refine run_seg (k := 5) (s' := (88, [some (vR 105), some (vR 7), some (vI l2)], [vI 0, vI l2, vR 7, vI l2, vR 105], σ)) rfl ?_
          refine run_callN (w := fun a => some (vI a)) (m := 91) (as := [vR 7, vI l2, vI 0]) (pc := 91) (ls := [some (vR 105), some (vR 7), some (vI l2)]) (st' := [vI l2, vR 105]) (σ := σ) hf rfl (fun _ h => (c_Table_partsOf h).mono (by decide)) (fun r11 hf => ?_)
          refine run_seg (k := 3) (s' := (94, [some (vR 105), some (vR 7), some (vI l2)], [vI 1, vI l2, vR 7, vI r11, vI l2, vR 105], σ)) rfl ?_
          refine run_callN (w := fun a => some (vI a)) (m := 91) (as := [vR 7, vI l2, vI 1]) (pc := 97) (ls := [some (vR 105), some (vR 7), some (vI l2)]) (st' := [vI r11, vI l2, vR 105]) (σ := σ) hf rfl (fun _ h => (c_Table_partsOf h).mono (by decide)) (fun r12 hf => ?_)
          refine run_callV (m := 2) (as := [vR 105, vI l2, vI r11, vI r12]) (pc := 100) (ls := [some (vR 105), some (vR 7), some (vI l2)]) (st' := []) (σ := σ) hf rfl (fun _ h => (c_Best_searchCoin h).mono (by decide)) (fun σ13 hf => ?_)
          refine run_seg (k := 1) (s' := (103, [some (vR 105), some (vR 7), some (vI (w32 (l2 + 1)))], [], σ13)) rfl ?_
          refine run_let (fun x14 => (103, [some (vR 105), some (vR 7), some (vI x14)], [], σ13)) hf (fun x14 hf => ?_)
          refine run_seg (k := 1) (s' := (59, [some (vR 105), some (vR 7), some (vI x14)], [], σ13)) rfl ?_
          exact ih hf
    · exact r_Best_search_106 hf
theorem r_Best_search_7 : ∀ (n : Nat) {l2 : Int} {σ : xSt} {r : Int × xSt}, f_Best_search_7 n l2 σ = some r → Run 3 0 1 kX0_search (7, [some (vR 105), some (vR 7), some (vI l2)], [], σ) (tIW r) := by
  intro n
  induction n with
  | zero =>
    intro _ _ _ h
    exact nomatch (show (none : Option (Int × xSt)) = some _ from h)
  | succ n ih =>
    intro l2 σ r hf
    unfold f_Best_search_7 at hf
    refine run_seg (k := 3) (s' := (if l2 < 30 then (13, [some (vR 105), some (vR 7), some (vI l2)], [], σ) else (57, [some (vR 105), some (vR 7), some (vI l2)], [], σ))) rfl ?_
    refine run_ite hf (fun _ hf => ?_) (fun _ hf => ?_)
    · refine run_seg (k := 6) (s' := (21, [some (vR 105), some (vR 7), some (vI l2)], [vI 0, vI l2, vR 7, vI l2, vR 107], σ)) rfl ?_
      refine run_callN (w := fun a => some (vI a)) (m := 8) (as := [vR 7, vI l2, vI 0]) (pc := 24) (ls := [some (vR 105), some (vR 7), some (vI l2)]) (st' := [vI l2, vR 107]) (σ := σ) hf rfl (fun _ h => (c_Best_partOf h).mono (by decide)) (fun r2 hf => ?_)
      refine run_seg (k := 1) (s' := (25, [some (vR 105), some (vR 7), some (vI l2)], [vL r2, vI l2, vR 107], σ)) rfl ?_
      refine run_guard (s' := (26, [some (vR 105), some (vR 7), some (vI l2)], [], upS σ 107 l2.toNat r2)) hf rfl (fun hf => ?_)
      refine run_let (fun σ3 => (26, [some (vR 105), some (vR 7), some (vI l2)], [], σ3)) hf (fun σ3 hf => ?_)
      refine run_seg (k := 6) (s' := (34, [some (vR 105), some (vR 7), some (vI l2)], [vI 1, vI l2, vR 7, vI l2, vR 108], σ3)) rfl ?_
      refine run_callN (w := fun a => some (vI a)) (m := 8) (as := [vR 7, vI l2, vI 1]) (pc := 37) (ls := [some (vR 105), some (vR 7), some (vI l2)]) (st' := [vI l2, vR 108]) (σ := σ3) hf rfl (fun _ h => (c_Best_partOf h).mono (by decide)) (fun r4 hf => ?_)
      refine run_seg (k := 1) (s' := (38, [some (vR 105), some (vR 7), some (vI l2)], [vL r4, vI l2, vR 108], σ3)) rfl ?_
      refine run_guard (s' := (39, [some (vR 105), some (vR 7), some (vI l2)], [], upS σ3 108 l2.toNat r4)) hf rfl (fun hf => ?_)
      refine run_let (fun σ5 => (39, [some (vR 105), some (vR 7), some (vI l2)], [], σ5)) hf (fun σ5 hf => ?_)
      refine run_seg (k := 5) (s' := (46, [some (vR 105), some (vR 7), some (vI l2)], [vI l2, vR 7, vI l2, vR 109], σ5)) rfl ?_
      refine run_callN (w := fun a => some (vI a)) (m := 7) (as := [vR 7, vI l2]) (pc := 49) (ls := [some (vR 105), some (vR 7), some (vI l2)]) (st' := [vI l2, vR 109]) (σ := σ5) hf rfl (fun _ h => (c_Best_wholeOf h).mono (by decide)) (fun r6 hf => ?_)
      refine run_seg (k := 1) (s' := (50, [some (vR 105), some (vR 7), some (vI l2)], [vL r6, vI l2, vR 109], σ5)) rfl ?_
      refine run_guard (s' := (51, [some (vR 105), some (vR 7), some (vI l2)], [], upS σ5 109 l2.toNat r6)) hf rfl (fun hf => ?_)
      refine run_let (fun σ7 => (51, [some (vR 105), some (vR 7), some (vI l2)], [], σ7)) hf (fun σ7 hf => ?_)
      refine run_seg (k := 1) (s' := (54, [some (vR 105), some (vR 7), some (vI (w32 (l2 + 1)))], [], σ7)) rfl ?_
      refine run_let (fun x8 => (54, [some (vR 105), some (vR 7), some (vI x8)], [], σ7)) hf (fun x8 hf => ?_)
      refine run_seg (k := 1) (s' := (7, [some (vR 105), some (vR 7), some (vI x8)], [], σ7)) rfl ?_
      exact ih hf
    · refine run_seg (k := 2) (s' := (59, [some (vR 105), some (vR 7), some (vI 0)], [], σ)) rfl ?_
      exact r_Best_search_59 1000000 hf
theorem c_Best_search {σ : xSt} {r : Int × xSt} (hf : f_Best_search σ = some r) : Call (3 + 1) 1 [vR 105, vR 7] σ (tIW r).1 (tIW r).2 := by
  unfold f_Best_search at hf
  refine call_of (own := 0) (rk := 1) (cd := kX0_search) (ls := [some (vR 105), some (vR 7), none]) (rT := tIW) rfl rfl rfl rfl rfl ?_
  refine run_seg (k := 3) (s' := (5, [some (vR 105), some (vR 7), none], [], upS σ 105 8 0)) rfl ?_
  refine run_let (fun σ1 => (5, [some (vR 105), some (vR 7), none], [], σ1)) hf (fun σ1 hf => ?_)
  refine run_seg (k := 2) (s' := (7, [some (vR 105), some (vR 7), some (vI 0)], [], σ1)) rfl ?_
  exact r_Best_search_7 1000000 hf
