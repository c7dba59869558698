/-! printed by wip/whole/all16.py: what the methods compute, and that the reader does so -/
/-- BentPennyModel.far(II)I -/
def f_M_far (p0 : Int) (p1 : Int) (σ : xSt) : Option (Int) :=
  if p0 < w32 (2 * p1) then (some (w32 ((w32 (2 * p1)) - p0)))
  else (some (w32 (p0 - (w32 (2 * p1)))))
theorem c_M_far {p0 : Int} {p1 : Int} {σ : xSt} {r : Int} (hf : f_M_far p0 p1 σ = some r) : Call (0 + 1) 315 [vI p0, vI p1] σ ((tI σ) r).1 ((tI σ) r).2 := by
  unfold f_M_far at hf
  refine call_of (own := 12) (rk := 1) (cd := kX12_far) (ls := [some (vI p0), some (vI p1)]) (rT := (tI σ)) rfl rfl rfl rfl rfl ?_
  refine run_seg (k := 5) (s' := (if p0 < w32 (2 * p1) then (7, [some (vI p0), some (vI p1)], [], σ) else (15, [some (vI p0), some (vI p1)], [], σ))) rfl ?_
  refine run_ite hf (fun _ hf => ?_) (fun _ hf => ?_)
  · refine run_seg (k := 6) (s' := (20, [some (vI p0), some (vI p1)], [vI (w32 ((w32 (2 * p1)) - p0))], σ)) rfl ?_
    exact run_ret hf rfl
  · refine run_seg (k := 5) (s' := (20, [some (vI p0), some (vI p1)], [vI (w32 (p0 - (w32 (2 * p1))))], σ)) rfl ?_
    exact run_ret hf rfl
def f_M_luck_28 (σ : xSt) : Option (Int × xSt) :=
  xbW (f_M_refuseLong σ) fun r5 σ6 =>
  some (r5, σ6)
def f_M_luck_44 : Nat → Int → Int → Int → Int → Int → xSt → Option (Int × xSt)
  | 0, _, _, _, _, _, _ => none
  | n + 1, l1, l2, l3, l4, l6, σ =>
    if l1 < l6 then (xbR (f_M_part l4 (xlshl 1 l1) l3 σ) fun r7 =>
    some (r7, σ))
    else (xbR (f_M_far l1 l6 σ) fun r8 =>
    xbR (f_M_far l1 l2 σ) fun r9 =>
    if r8 < r9 then (xlet (w32 (l6 + 1)) fun x10 =>
    f_M_luck_44 n l1 l2 l3 l4 x10 σ)
    else (xbR (f_M_choose l1 l6 σ) fun r11 =>
    xlet (w64 (l4 + r11)) fun x12 =>
    xlet (w32 (l6 + 1)) fun x13 =>
    f_M_luck_44 n l1 l2 l3 x12 x13 σ))
/-- BentPennyModel.luck(III)J -/
def f_M_luck (p1 : Int) (p2 : Int) (p3 : Int) (σ : xSt) : Option (Int × xSt) :=
  xbR (f_M_isIn p1 1 60 σ) fun r1 =>
  if r1 = 0 then (f_M_luck_28 σ)
  else (xbR (f_M_isIn p2 0 p1 σ) fun r2 =>
  if r2 = 0 then (f_M_luck_28 σ)
  else (xbR (f_M_isIn p3 0 1 σ) fun r3 =>
  if r3 = 0 then (f_M_luck_28 σ)
  else (xlet (upS σ 111 0 0) fun σ4 =>
  f_M_luck_44 1000000 p1 p2 p3 0 0 σ4)))
theorem r_M_luck_28 {g1 : Option xV} {g2 : Option xV} {g3 : Option xV} {g4 : Option xV} {g5 : Option xV} {g6 : Option xV} {σ : xSt} {r : Int × xSt} (hf : f_M_luck_28 σ = some r) : Run 2 12 3 kX12_luck (28, [some (vR 111), g1, g2, g3, g4, g5, g6], [], σ) (tLW r) := by
  unfold f_M_luck_28 at hf
  refine run_seg (k := 1) (s' := (29, [some (vR 111), g1, g2, g3, g4, g5, g6], [vR 111], σ)) rfl ?_
  refine run_callW (w := fun a => some (vL a)) (m := 211) (as := [vR 111]) (pc := 32) (ls := [some (vR 111), g1, g2, g3, g4, g5, g6]) (st' := []) (σ := σ) hf rfl (fun _ _ h => (c_M_refuseLong h).mono (by decide)) (fun r5 σ6 hf => ?_)
  exact run_ret hf rfl
theorem r_M_luck_44 : ∀ (n : Nat) {l1 : Int} {l2 : Int} {l3 : Int} {l4 : Int} {l6 : Int} {g0 : Option xV} {σ : xSt} {r : Int × xSt}, f_M_luck_44 n l1 l2 l3 l4 l6 σ = some r → Run 2 12 3 kX12_luck (44, [g0, some (vI l1), some (vI l2), some (vI l3), some (vL l4), none, some (vI l6)], [], σ) (tLW r) := by
  intro n
  induction n with
  | zero =>
    intro _ _ _ _ _ _ _ _ h
    exact nomatch (show (none : Option (Int × xSt)) = some _ from h)
  | succ n ih =>
    intro l1 l2 l3 l4 l6 g0 σ r hf
    unfold f_M_luck_44 at hf
    refine run_seg (k := 3) (s' := (if l1 < l6 then (81, [g0, some (vI l1), some (vI l2), some (vI l3), some (vL l4), none, some (vI l6)], [], σ) else (50, [g0, some (vI l1), some (vI l2), some (vI l3), some (vL l4), none, some (vI l6)], [], σ))) rfl ?_
    refine run_ite hf (fun _ hf => ?_) (fun _ hf => ?_)
    · refine run_seg (k := 5) (s' := (87, [g0, some (vI l1), some (vI l2), some (vI l3), some (vL l4), none, some (vI l6)], [vI l3, vL (xlshl 1 l1), vL l4], σ)) rfl ?_
      refine run_callN (w := fun a => some (vL a)) (m := 219) (as := [vL l4, vL (xlshl 1 l1), vI l3]) (pc := 90) (ls := [g0, some (vI l1), some (vI l2), some (vI l3), some (vL l4), none, some (vI l6)]) (st' := []) (σ := σ) hf rfl (fun _ h => (c_M_part h).mono (by decide)) (fun r7 hf => ?_)
      exact run_ret hf rfl
    · refine run_seg (k := 2) (s' := (53, [g0, some (vI l1), some (vI l2), some (vI l3), some (vL l4), none, some (vI l6)], [vI l6, vI l1], σ)) rfl ?_
      refine run_callN (w := fun a => some (vI a)) (m := 315) (as := [vI l1, vI l6]) (pc := 56) (ls := [g0, some (vI l1), some (vI l2), some (vI l3), some (vL l4), none, some (vI l6)]) (st' := []) (σ := σ) hf rfl (fun _ h => (c_M_far h).mono (by decide)) (fun r8 hf => ?_)
      refine run_seg (k := 2) (s' := (58, [g0, some (vI l1), some (vI l2), some (vI l3), some (vL l4), none, some (vI l6)], [vI l2, vI l1, vI r8], σ)) rfl ?_
      refine run_callN (w := fun a => some (vI a)) (m := 315) (as := [vI l1, vI l2]) (pc := 61) (ls := [g0, some (vI l1), some (vI l2), some (vI l3), some (vL l4), none, some (vI l6)]) (st' := [vI r8]) (σ := σ) hf rfl (fun _ h => (c_M_far h).mono (by decide)) (fun r9 hf => ?_)
      refine run_seg (k := 1) (s' := (if r8 < r9 then (75, [g0, some (vI l1), some (vI l2), some (vI l3), some (vL l4), none, some (vI l6)], [], σ) else (64, [g0, some (vI l1), some (vI l2), some (vI l3), some (vL l4), none, some (vI l6)], [], σ))) rfl ?_
      refine run_ite hf (fun _ hf => ?_) (fun _ hf => ?_)
      · refine run_seg (k := 1) (s' := (78, [g0, some (vI l1), some (vI l2), some (vI l3), some (vL l4), none, some (vI (w32 (l6 + 1)))], [], σ)) rfl ?_
        refine run_let (fun x10 => (78, [g0, some (vI l1), some (vI l2), some (vI l3), some (vL l4), none, some (vI x10)], [], σ)) hf (fun x10 hf => ?_)
        refine run_seg (k := 1) (s' := (44, [g0, some (vI l1), some (vI l2), some (vI l3), some (vL l4), none, some (vI x10)], [], σ)) rfl ?_
        exact ih hf
      · refine run_seg (k := 3) (s' := (69, [g0, some (vI l1), some (vI l2), some (vI l3), some (vL l4), none, some (vI l6)], [vI l6, vI l1, vL l4], σ)) rfl ?_
        refine run_callN (w := fun a => some (vL a)) (m := 276) (as := [vI l1, vI l6]) (pc := 72) (ls := [g0, some (vI l1), some (vI l2), some (vI l3), some (vL l4), none, some (vI l6)]) (st' := [vL l4]) (σ := σ) hf rfl (fun _ h => (c_M_choose h).mono (by decide)) (fun r11 hf => ?_)
        refine run_seg (k := 2) (s' := (75, [g0, some (vI l1), some (vI l2), some (vI l3), some (vL (w64 (l4 + r11))), none, some (vI l6)], [], σ)) rfl ?_
        refine run_let (fun x12 => (75, [g0, some (vI l1), some (vI l2), some (vI l3), some (vL x12), none, some (vI l6)], [], σ)) hf (fun x12 hf => ?_)
        refine run_seg (k := 1) (s' := (78, [g0, some (vI l1), some (vI l2), some (vI l3), some (vL x12), none, some (vI (w32 (l6 + 1)))], [], σ)) rfl ?_
        refine run_let (fun x13 => (78, [g0, some (vI l1), some (vI l2), some (vI l3), some (vL x12), none, some (vI x13)], [], σ)) hf (fun x13 hf => ?_)
        refine run_seg (k := 1) (s' := (44, [g0, some (vI l1), some (vI l2), some (vI l3), some (vL x12), none, some (vI x13)], [], σ)) rfl ?_
        exact ih hf
theorem c_M_luck {p1 : Int} {p2 : Int} {p3 : Int} {σ : xSt} {r : Int × xSt} (hf : f_M_luck p1 p2 p3 σ = some r) : Call (2 + 1) 316 [vR 111, vI p1, vI p2, vI p3] σ (tLW r).1 (tLW r).2 := by
  unfold f_M_luck at hf
  refine call_of (own := 12) (rk := 3) (cd := kX12_luck) (ls := [some (vR 111), some (vI p1), some (vI p2), some (vI p3), none, none, none]) (rT := tLW) rfl rfl rfl rfl rfl ?_
  refine run_seg (k := 3) (s' := (4, [some (vR 111), some (vI p1), some (vI p2), some (vI p3), none, none, none], [vI 60, vI 1, vI p1], σ)) rfl ?_
  refine run_callN (w := fun a => some (vI a)) (m := 216) (as := [vI p1, vI 1, vI 60]) (pc := 7) (ls := [some (vR 111), some (vI p1), some (vI p2), some (vI p3), none, none, none]) (st' := []) (σ := σ) hf rfl (fun _ h => (c_M_isIn h).mono (by decide)) (fun r1 hf => ?_)
  refine run_seg (k := 1) (s' := (if r1 = 0 then (28, [some (vR 111), some (vI p1), some (vI p2), some (vI p3), none, none, none], [], σ) else (10, [some (vR 111), some (vI p1), some (vI p2), some (vI p3), none, none, none], [], σ))) rfl ?_
  refine run_ite hf (fun _ hf => ?_) (fun _ hf => ?_)
  · exact r_M_luck_28 hf
  · refine run_seg (k := 3) (s' := (13, [some (vR 111), some (vI p1), some (vI p2), some (vI p3), none, none, none], [vI p1, vI 0, vI p2], σ)) rfl ?_
    refine run_callN (w := fun a => some (vI a)) (m := 216) (as := [vI p2, vI 0, vI p1]) (pc := 16) (ls := [some (vR 111), some (vI p1), some (vI p2), some (vI p3), none, none, none]) (st' := []) (σ := σ) hf rfl (fun _ h => (c_M_isIn h).mono (by decide)) (fun r2 hf => ?_)
    refine run_seg (k := 1) (s' := (if r2 = 0 then (28, [some (vR 111), some (vI p1), some (vI p2), some (vI p3), none, none, none], [], σ) else (19, [some (vR 111), some (vI p1), some (vI p2), some (vI p3), none, none, none], [], σ))) rfl ?_
    refine run_ite hf (fun _ hf => ?_) (fun _ hf => ?_)
    · exact r_M_luck_28 hf
    · refine run_seg (k := 3) (s' := (22, [some (vR 111), some (vI p1), some (vI p2), some (vI p3), none, none, none], [vI 1, vI 0, vI p3], σ)) rfl ?_
      refine run_callN (w := fun a => some (vI a)) (m := 216) (as := [vI p3, vI 0, vI 1]) (pc := 25) (ls := [some (vR 111), some (vI p1), some (vI p2), some (vI p3), none, none, none]) (st' := []) (σ := σ) hf rfl (fun _ h => (c_M_isIn h).mono (by decide)) (fun r3 hf => ?_)
      refine run_seg (k := 1) (s' := (if r3 = 0 then (28, [some (vR 111), some (vI p1), some (vI p2), some (vI p3), none, none, none], [], σ) else (33, [some (vR 111), some (vI p1), some (vI p2), some (vI p3), none, none, none], [], σ))) rfl ?_
      refine run_ite hf (fun _ hf => ?_) (fun _ hf => ?_)
      · exact r_M_luck_28 hf
      · refine run_seg (k := 3) (s' := (38, [some (vR 111), some (vI p1), some (vI p2), some (vI p3), none, none, none], [], upS σ 111 0 0)) rfl ?_
        refine run_let (fun σ4 => (38, [some (vR 111), some (vI p1), some (vI p2), some (vI p3), none, none, none], [], σ4)) hf (fun σ4 hf => ?_)
        refine run_seg (k := 4) (s' := (44, [some (vR 111), some (vI p1), some (vI p2), some (vI p3), some (vL 0), none, some (vI 0)], [], σ4)) rfl ?_
        exact r_M_luck_44 1000000 hf
def f_M_runs_32 : Nat → Int → Int → xSt → Option (Int × xSt)
  | 0, _, _, _ => none
  | n + 1, l1, l2, σ =>
    if l2 < l1 then (if 0 ≤ l2 ∧ l2 < 2600 then (
    xlet (upS σ 111 53 (w32 ((σ 111 53) + (σ 125 l2.toNat)))) fun σ6 =>
    if 0 < l2 then (if 0 ≤ l2 ∧ l2 < 2600 then (
    if 0 ≤ w32 (l2 - 1) ∧ w32 (l2 - 1) < 2600 then (
    if σ6 125 l2.toNat = σ6 125 (w32 (l2 - 1)).toNat then (xlet (w32 (l2 + 1)) fun x7 =>
    f_M_runs_32 n l1 x7 σ6)
    else (xlet (upS σ6 111 52 (w32 ((σ6 111 52) + 1))) fun σ8 =>
    xlet (w32 (l2 + 1)) fun x9 =>
    f_M_runs_32 n l1 x9 σ8)) else none) else none)
    else (xlet (w32 (l2 + 1)) fun x10 =>
    f_M_runs_32 n l1 x10 σ6)) else none)
    else (xlet (upS σ 111 54 (w32 (l1 - (σ 111 53)))) fun σ11 =>
    some (σ11 111 52, σ11))
/-- BentPennyModel.runs()I -/
def f_M_runs (σ : xSt) : Option (Int × xSt) :=
  xlet (upS σ 111 0 0) fun σ1 =>
  xbW (f_M_takeRow 1 60 σ1) fun r2 σ3 =>
  if r2 = (-1) then (some ((-1), σ3))
  else (xlet (upS σ3 111 52 1) fun σ4 =>
  xlet (upS σ4 111 53 0) fun σ5 =>
  f_M_runs_32 1000000 r2 0 σ5)
theorem r_M_runs_32 : ∀ (n : Nat) {l1 : Int} {l2 : Int} {σ : xSt} {r : Int × xSt}, f_M_runs_32 n l1 l2 σ = some r → Run 2 12 1 kX12_runs (32, [some (vR 111), some (vI l1), some (vI l2)], [], σ) (tIW r) := by
  intro n
  induction n with
  | zero =>
    intro _ _ _ _ h
    exact nomatch (show (none : Option (Int × xSt)) = some _ from h)
  | succ n ih =>
    intro l1 l2 σ r hf
    unfold f_M_runs_32 at hf
    refine run_seg (k := 3) (s' := (if l2 < l1 then (37, [some (vR 111), some (vI l1), some (vI l2)], [], σ) else (89, [some (vR 111), some (vI l1), some (vI l2)], [], σ))) rfl ?_
    refine run_ite hf (fun _ hf => ?_) (fun _ hf => ?_)
    · refine run_seg (k := 6) (s' := (47, [some (vR 111), some (vI l1), some (vI l2)], [vI l2, vR 125, vI (σ 111 53), vR 111], σ)) rfl ?_
      refine run_guard (s' := (48, [some (vR 111), some (vI l1), some (vI l2)], [vI (σ 125 l2.toNat), vI (σ 111 53), vR 111], σ)) hf rfl (fun hf => ?_)
      refine run_seg (k := 2) (s' := (52, [some (vR 111), some (vI l1), some (vI l2)], [], upS σ 111 53 (w32 ((σ 111 53) + (σ 125 l2.toNat))))) rfl ?_
      refine run_let (fun σ6 => (52, [some (vR 111), some (vI l1), some (vI l2)], [], σ6)) hf (fun σ6 hf => ?_)
      refine run_seg (k := 2) (s' := (if 0 < l2 then (56, [some (vR 111), some (vI l1), some (vI l2)], [], σ6) else (83, [some (vR 111), some (vI l1), some (vI l2)], [], σ6))) rfl ?_
      refine run_ite hf (fun _ hf => ?_) (fun _ hf => ?_)
      · refine run_seg (k := 3) (s' := (61, [some (vR 111), some (vI l1), some (vI l2)], [vI l2, vR 125], σ6)) rfl ?_
        refine run_guard (s' := (62, [some (vR 111), some (vI l1), some (vI l2)], [vI (σ6 125 l2.toNat)], σ6)) hf rfl (fun hf => ?_)
        refine run_seg (k := 5) (s' := (69, [some (vR 111), some (vI l1), some (vI l2)], [vI (w32 (l2 - 1)), vR 125, vI (σ6 125 l2.toNat)], σ6)) rfl ?_
        refine run_guard (s' := (70, [some (vR 111), some (vI l1), some (vI l2)], [vI (σ6 125 (w32 (l2 - 1)).toNat), vI (σ6 125 l2.toNat)], σ6)) hf rfl (fun hf => ?_)
        refine run_seg (k := 1) (s' := (if σ6 125 l2.toNat = σ6 125 (w32 (l2 - 1)).toNat then (83, [some (vR 111), some (vI l1), some (vI l2)], [], σ6) else (73, [some (vR 111), some (vI l1), some (vI l2)], [], σ6))) rfl ?_
        refine run_ite hf (fun _ hf => ?_) (fun _ hf => ?_)
        · refine run_seg (k := 1) (s' := (86, [some (vR 111), some (vI l1), some (vI (w32 (l2 + 1)))], [], σ6)) rfl ?_
          refine run_let (fun x7 => (86, [some (vR 111), some (vI l1), some (vI x7)], [], σ6)) hf (fun x7 hf => ?_)
          refine run_seg (k := 1) (s' := (32, [some (vR 111), some (vI l1), some (vI x7)], [], σ6)) rfl ?_
          exact ih hf
        · refine run_seg (k := 6) (s' := (83, [some (vR 111), some (vI l1), some (vI l2)], [], upS σ6 111 52 (w32 ((σ6 111 52) + 1)))) rfl ?_
          refine run_let (fun σ8 => (83, [some (vR 111), some (vI l1), some (vI l2)], [], σ8)) hf (fun σ8 hf => ?_)
          refine run_seg (k := 1) (s' := (86, [some (vR 111), some (vI l1), some (vI (w32 (l2 + 1)))], [], σ8)) rfl ?_
          refine run_let (fun x9 => (86, [some (vR 111), some (vI l1), some (vI x9)], [], σ8)) hf (fun x9 hf => ?_)
          refine run_seg (k := 1) (s' := (32, [some (vR 111), some (vI l1), some (vI x9)], [], σ8)) rfl ?_
          exact ih hf
      · refine run_seg (k := 1) (s' := (86, [some (vR 111), some (vI l1), some (vI (w32 (l2 + 1)))], [], σ6)) rfl ?_
        refine run_let (fun x10 => (86, [some (vR 111), some (vI l1), some (vI x10)], [], σ6)) hf (fun x10 hf => ?_)
        refine run_seg (k := 1) (s' := (32, [some (vR 111), some (vI l1), some (vI x10)], [], σ6)) rfl ?_
        exact ih hf
    · refine run_seg (k := 6) (s' := (99, [some (vR 111), some (vI l1), some (vI l2)], [], upS σ 111 54 (w32 (l1 - (σ 111 53))))) rfl ?_
      refine run_let (fun σ11 => (99, [some (vR 111), some (vI l1), some (vI l2)], [], σ11)) hf (fun σ11 hf => ?_)
      refine run_seg (k := 2) (s' := (103, [some (vR 111), some (vI l1), some (vI l2)], [vI (σ11 111 52)], σ11)) rfl ?_
      exact run_ret hf rfl
theorem c_M_runs {σ : xSt} {r : Int × xSt} (hf : f_M_runs σ = some r) : Call (2 + 1) 317 [vR 111] σ (tIW r).1 (tIW r).2 := by
  unfold f_M_runs at hf
  refine call_of (own := 12) (rk := 1) (cd := kX12_runs) (ls := [some (vR 111), none, none]) (rT := tIW) rfl rfl rfl rfl rfl ?_
  refine run_seg (k := 3) (s' := (5, [some (vR 111), none, none], [], upS σ 111 0 0)) rfl ?_
  refine run_let (fun σ1 => (5, [some (vR 111), none, none], [], σ1)) hf (fun σ1 hf => ?_)
  refine run_seg (k := 3) (s' := (9, [some (vR 111), none, none], [vI 60, vI 1, vR 111], σ1)) rfl ?_
  refine run_callW (w := fun a => some (vI a)) (m := 290) (as := [vR 111, vI 1, vI 60]) (pc := 12) (ls := [some (vR 111), none, none]) (st' := []) (σ := σ1) hf rfl (fun _ _ h => (c_M_takeRow h).mono (by decide)) (fun r2 σ3 hf => ?_)
  refine run_seg (k := 4) (s' := (if r2 = (-1) then (18, [some (vR 111), some (vI r2), none], [], σ3) else (20, [some (vR 111), some (vI r2), none], [], σ3))) rfl ?_
  refine run_ite hf (fun _ hf => ?_) (fun _ hf => ?_)
  · refine run_seg (k := 1) (s' := (19, [some (vR 111), some (vI r2), none], [vI (-1)], σ3)) rfl ?_
    exact run_ret hf rfl
  · refine run_seg (k := 3) (s' := (25, [some (vR 111), some (vI r2), none], [], upS σ3 111 52 1)) rfl ?_
    refine run_let (fun σ4 => (25, [some (vR 111), some (vI r2), none], [], σ4)) hf (fun σ4 hf => ?_)
    refine run_seg (k := 3) (s' := (30, [some (vR 111), some (vI r2), none], [], upS σ4 111 53 0)) rfl ?_
    refine run_let (fun σ5 => (30, [some (vR 111), some (vI r2), none], [], σ5)) hf (fun σ5 hf => ?_)
    refine run_seg (k := 2) (s' := (32, [some (vR 111), some (vI r2), some (vI 0)], [], σ5)) rfl ?_
    exact r_M_runs_32 1000000 hf
def f_M_rowsOf_8 (l2 : Int) (σ : xSt) : Option (Int) :=
  if l2 = 1 then (some 1)
  else (some 0)
/-- BentPennyModel.rowsOf(III)J -/
def f_M_rowsOf (p0 : Int) (p1 : Int) (p2 : Int) (σ : xSt) : Option (Int) :=
  if p0 = 0 then (f_M_rowsOf_8 p2 σ)
  else (if p1 = 0 then (f_M_rowsOf_8 p2 σ)
  else (xlet (xdiv p2 2) fun x1 =>
  if xrem p2 2 = 0 then (xbR (f_M_choose (w32 (p0 - 1)) (w32 (x1 - 1)) σ) fun r2 =>
  xbR (f_M_choose (w32 (p1 - 1)) (w32 (x1 - 1)) σ) fun r3 =>
  some (w64 ((w64 (2 * r2)) * r3)))
  else (xbR (f_M_choose (w32 (p0 - 1)) x1 σ) fun r4 =>
  xbR (f_M_choose (w32 (p1 - 1)) (w32 (x1 - 1)) σ) fun r5 =>
  xbR (f_M_choose (w32 (p0 - 1)) (w32 (x1 - 1)) σ) fun r6 =>
  xbR (f_M_choose (w32 (p1 - 1)) x1 σ) fun r7 =>
  some (w64 ((w64 (r4 * r5)) + (w64 (r6 * r7)))))))
theorem r_M_rowsOf_8 {l2 : Int} {g0 : Option xV} {g1 : Option xV} {g3 : Option xV} {σ : xSt} {r : Int} (hf : f_M_rowsOf_8 l2 σ = some r) : Run 1 12 3 kX12_rowsOf (8, [g0, g1, some (vI l2), g3], [], σ) ((tL σ) r) := by
  unfold f_M_rowsOf_8 at hf
  refine run_seg (k := 3) (s' := (if l2 = 1 then (13, [g0, g1, some (vI l2), g3], [], σ) else (17, [g0, g1, some (vI l2), g3], [], σ))) rfl ?_
  refine run_ite hf (fun _ hf => ?_) (fun _ hf => ?_)
  · refine run_seg (k := 2) (s' := (18, [g0, g1, some (vI l2), g3], [vL 1], σ)) rfl ?_
    exact run_ret hf rfl
  · refine run_seg (k := 1) (s' := (18, [g0, g1, some (vI l2), g3], [vL 0], σ)) rfl ?_
    exact run_ret hf rfl
theorem c_M_rowsOf {p0 : Int} {p1 : Int} {p2 : Int} {σ : xSt} {r : Int} (hf : f_M_rowsOf p0 p1 p2 σ = some r) : Call (1 + 1) 318 [vI p0, vI p1, vI p2] σ ((tL σ) r).1 ((tL σ) r).2 := by
  unfold f_M_rowsOf at hf
  refine call_of (own := 12) (rk := 3) (cd := kX12_rowsOf) (ls := [some (vI p0), some (vI p1), some (vI p2), none]) (rT := (tL σ)) rfl rfl rfl rfl rfl ?_
  refine run_seg (k := 2) (s' := (if p0 = 0 then (8, [some (vI p0), some (vI p1), some (vI p2), none], [], σ) else (4, [some (vI p0), some (vI p1), some (vI p2), none], [], σ))) rfl ?_
  refine run_ite hf (fun _ hf => ?_) (fun _ hf => ?_)
  · exact r_M_rowsOf_8 hf
  · refine run_seg (k := 2) (s' := (if p1 = 0 then (8, [some (vI p0), some (vI p1), some (vI p2), none], [], σ) else (19, [some (vI p0), some (vI p1), some (vI p2), none], [], σ))) rfl ?_
    refine run_ite hf (fun _ hf => ?_) (fun _ hf => ?_)
    · exact r_M_rowsOf_8 hf
    · refine run_seg (k := 4) (s' := (23, [some (vI p0), some (vI p1), some (vI p2), some (vI (xdiv p2 2))], [], σ)) rfl ?_
      refine run_let (fun x1 => (23, [some (vI p0), some (vI p1), some (vI p2), some (vI x1)], [], σ)) hf (fun x1 hf => ?_)
      refine run_seg (k := 4) (s' := (if xrem p2 2 = 0 then (29, [some (vI p0), some (vI p1), some (vI p2), some (vI x1)], [], σ) else (53, [some (vI p0), some (vI p1), some (vI p2), some (vI x1)], [], σ))) rfl ?_
      refine run_ite hf (fun _ hf => ?_) (fun _ hf => ?_)
      · refine run_seg (k := 7) (s' := (38, [some (vI p0), some (vI p1), some (vI p2), some (vI x1)], [vI (w32 (x1 - 1)), vI (w32 (p0 - 1)), vL 2], σ)) rfl ?_
        refine run_callN (w := fun a => some (vL a)) (m := 276) (as := [vI (w32 (p0 - 1)), vI (w32 (x1 - 1))]) (pc := 41) (ls := [some (vI p0), some (vI p1), some (vI p2), some (vI x1)]) (st' := [vL 2]) (σ := σ) hf rfl (fun _ h => (c_M_choose h).mono (by decide)) (fun r2 hf => ?_)
        refine run_seg (k := 7) (s' := (48, [some (vI p0), some (vI p1), some (vI p2), some (vI x1)], [vI (w32 (x1 - 1)), vI (w32 (p1 - 1)), vL (w64 (2 * r2))], σ)) rfl ?_
        refine run_callN (w := fun a => some (vL a)) (m := 276) (as := [vI (w32 (p1 - 1)), vI (w32 (x1 - 1))]) (pc := 51) (ls := [some (vI p0), some (vI p1), some (vI p2), some (vI x1)]) (st' := [vL (w64 (2 * r2))]) (σ := σ) hf rfl (fun _ h => (c_M_choose h).mono (by decide)) (fun r3 hf => ?_)
        refine run_seg (k := 1) (s' := (52, [some (vI p0), some (vI p1), some (vI p2), some (vI x1)], [vL (w64 ((w64 (2 * r2)) * r3))], σ)) rfl ?_
        exact run_ret hf rfl
      · refine run_seg (k := 4) (s' := (57, [some (vI p0), some (vI p1), some (vI p2), some (vI x1)], [vI x1, vI (w32 (p0 - 1))], σ)) rfl ?_
        refine run_callN (w := fun a => some (vL a)) (m := 276) (as := [vI (w32 (p0 - 1)), vI x1]) (pc := 60) (ls := [some (vI p0), some (vI p1), some (vI p2), some (vI x1)]) (st' := []) (σ := σ) hf rfl (fun _ h => (c_M_choose h).mono (by decide)) (fun r4 hf => ?_)
        refine run_seg (k := 6) (s' := (66, [some (vI p0), some (vI p1), some (vI p2), some (vI x1)], [vI (w32 (x1 - 1)), vI (w32 (p1 - 1)), vL r4], σ)) rfl ?_
        refine run_callN (w := fun a => some (vL a)) (m := 276) (as := [vI (w32 (p1 - 1)), vI (w32 (x1 - 1))]) (pc := 69) (ls := [some (vI p0), some (vI p1), some (vI p2), some (vI x1)]) (st' := [vL r4]) (σ := σ) hf rfl (fun _ h => (c_M_choose h).mono (by decide)) (fun r5 hf => ?_)
        refine run_seg (k := 7) (s' := (76, [some (vI p0), some (vI p1), some (vI p2), some (vI x1)], [vI (w32 (x1 - 1)), vI (w32 (p0 - 1)), vL (w64 (r4 * r5))], σ)) rfl ?_
        refine run_callN (w := fun a => some (vL a)) (m := 276) (as := [vI (w32 (p0 - 1)), vI (w32 (x1 - 1))]) (pc := 79) (ls := [some (vI p0), some (vI p1), some (vI p2), some (vI x1)]) (st' := [vL (w64 (r4 * r5))]) (σ := σ) hf rfl (fun _ h => (c_M_choose h).mono (by decide)) (fun r6 hf => ?_)
        refine run_seg (k := 4) (s' := (83, [some (vI p0), some (vI p1), some (vI p2), some (vI x1)], [vI x1, vI (w32 (p1 - 1)), vL r6, vL (w64 (r4 * r5))], σ)) rfl ?_
        refine run_callN (w := fun a => some (vL a)) (m := 276) (as := [vI (w32 (p1 - 1)), vI x1]) (pc := 86) (ls := [some (vI p0), some (vI p1), some (vI p2), some (vI x1)]) (st' := [vL r6, vL (w64 (r4 * r5))]) (σ := σ) hf rfl (fun _ h => (c_M_choose h).mono (by decide)) (fun r7 hf => ?_)
        refine run_seg (k := 2) (s' := (88, [some (vI p0), some (vI p1), some (vI p2), some (vI x1)], [vL (w64 ((w64 (r4 * r5)) + (w64 (r6 * r7))))], σ)) rfl ?_
        exact run_ret hf rfl
def f_M_seldom_17 (σ : xSt) : Option (Int × xSt) :=
  xbW (f_M_refuseLong σ) fun r3 σ4 =>
  some (r3, σ4)
def f_M_seldom_32 : Nat → Int → Int → Int → xSt → Option (Int × xSt)
  | 0, _, _, _, _ => none
  | n + 1, l1, l2, l4, σ =>
    if σ 111 52 < l4 then (xbR (f_M_choose (w32 ((σ 111 53) + (σ 111 54))) (σ 111 53) σ) fun r5 =>
    xbR (f_M_part l2 r5 l1 σ) fun r6 =>
    some (r6, σ))
    else (xbR (f_M_rowsOf (σ 111 53) (σ 111 54) l4 σ) fun r7 =>
    xlet (w64 (l2 + r7)) fun x8 =>
    xlet (w32 (l4 + 1)) fun x9 =>
    f_M_seldom_32 n l1 x8 x9 σ)
/-- BentPennyModel.seldom(I)J -/
def f_M_seldom (p1 : Int) (σ : xSt) : Option (Int × xSt) :=
  if σ 111 52 = (-1) then (f_M_seldom_17 σ)
  else (xbR (f_M_isIn p1 0 1 σ) fun r1 =>
  if r1 = 0 then (f_M_seldom_17 σ)
  else (xlet (upS σ 111 0 0) fun σ2 =>
  f_M_seldom_32 1000000 p1 0 1 σ2))
theorem r_M_seldom_17 {g1 : Option xV} {g2 : Option xV} {g3 : Option xV} {g4 : Option xV} {σ : xSt} {r : Int × xSt} (hf : f_M_seldom_17 σ = some r) : Run 2 12 3 kX12_seldom (17, [some (vR 111), g1, g2, g3, g4], [], σ) (tLW r) := by
  unfold f_M_seldom_17 at hf
  refine run_seg (k := 1) (s' := (18, [some (vR 111), g1, g2, g3, g4], [vR 111], σ)) rfl ?_
  refine run_callW (w := fun a => some (vL a)) (m := 211) (as := [vR 111]) (pc := 21) (ls := [some (vR 111), g1, g2, g3, g4]) (st' := []) (σ := σ) hf rfl (fun _ _ h => (c_M_refuseLong h).mono (by decide)) (fun r3 σ4 hf => ?_)
  exact run_ret hf rfl
theorem r_M_seldom_32 : ∀ (n : Nat) {l1 : Int} {l2 : Int} {l4 : Int} {σ : xSt} {r : Int × xSt}, f_M_seldom_32 n l1 l2 l4 σ = some r → Run 2 12 3 kX12_seldom (32, [some (vR 111), some (vI l1), some (vL l2), none, some (vI l4)], [], σ) (tLW r) := by
  intro n
  induction n with
  | zero =>
    intro _ _ _ _ _ h
    exact nomatch (show (none : Option (Int × xSt)) = some _ from h)
  | succ n ih =>
    intro l1 l2 l4 σ r hf
    unfold f_M_seldom_32 at hf
    refine run_seg (k := 4) (s' := (if σ 111 52 < l4 then (63, [some (vR 111), some (vI l1), some (vL l2), none, some (vI l4)], [], σ) else (41, [some (vR 111), some (vI l1), some (vL l2), none, some (vI l4)], [], σ))) rfl ?_
    refine run_ite hf (fun _ hf => ?_) (fun _ hf => ?_)
    · refine run_seg (k := 8) (s' := (77, [some (vR 111), some (vI l1), some (vL l2), none, some (vI l4)], [vI (σ 111 53), vI (w32 ((σ 111 53) + (σ 111 54))), vL l2], σ)) rfl ?_
      refine run_callN (w := fun a => some (vL a)) (m := 276) (as := [vI (w32 ((σ 111 53) + (σ 111 54))), vI (σ 111 53)]) (pc := 80) (ls := [some (vR 111), some (vI l1), some (vL l2), none, some (vI l4)]) (st' := [vL l2]) (σ := σ) hf rfl (fun _ h => (c_M_choose h).mono (by decide)) (fun r5 hf => ?_)
      refine run_seg (k := 1) (s' := (81, [some (vR 111), some (vI l1), some (vL l2), none, some (vI l4)], [vI l1, vL r5, vL l2], σ)) rfl ?_
      refine run_callN (w := fun a => some (vL a)) (m := 219) (as := [vL l2, vL r5, vI l1]) (pc := 84) (ls := [some (vR 111), some (vI l1), some (vL l2), none, some (vI l4)]) (st' := []) (σ := σ) hf rfl (fun _ h => (c_M_part h).mono (by decide)) (fun r6 hf => ?_)
      exact run_ret hf rfl
    · refine run_seg (k := 6) (s' := (52, [some (vR 111), some (vI l1), some (vL l2), none, some (vI l4)], [vI l4, vI (σ 111 54), vI (σ 111 53), vL l2], σ)) rfl ?_
      refine run_callN (w := fun a => some (vL a)) (m := 318) (as := [vI (σ 111 53), vI (σ 111 54), vI l4]) (pc := 55) (ls := [some (vR 111), some (vI l1), some (vL l2), none, some (vI l4)]) (st' := [vL l2]) (σ := σ) hf rfl (fun _ h => (c_M_rowsOf h).mono (by decide)) (fun r7 hf => ?_)
      refine run_seg (k := 2) (s' := (57, [some (vR 111), some (vI l1), some (vL (w64 (l2 + r7))), none, some (vI l4)], [], σ)) rfl ?_
      refine run_let (fun x8 => (57, [some (vR 111), some (vI l1), some (vL x8), none, some (vI l4)], [], σ)) hf (fun x8 hf => ?_)
      refine run_seg (k := 1) (s' := (60, [some (vR 111), some (vI l1), some (vL x8), none, some (vI (w32 (l4 + 1)))], [], σ)) rfl ?_
      refine run_let (fun x9 => (60, [some (vR 111), some (vI l1), some (vL x8), none, some (vI x9)], [], σ)) hf (fun x9 hf => ?_)
      refine run_seg (k := 1) (s' := (32, [some (vR 111), some (vI l1), some (vL x8), none, some (vI x9)], [], σ)) rfl ?_
      exact ih hf
theorem c_M_seldom {p1 : Int} {σ : xSt} {r : Int × xSt} (hf : f_M_seldom p1 σ = some r) : Call (2 + 1) 319 [vR 111, vI p1] σ (tLW r).1 (tLW r).2 := by
  unfold f_M_seldom at hf
  refine call_of (own := 12) (rk := 3) (cd := kX12_seldom) (ls := [some (vR 111), some (vI p1), none, none, none]) (rT := tLW) rfl rfl rfl rfl rfl ?_
  refine run_seg (k := 4) (s' := (if σ 111 52 = (-1) then (17, [some (vR 111), some (vI p1), none, none, none], [], σ) else (8, [some (vR 111), some (vI p1), none, none, none], [], σ))) rfl ?_
  refine run_ite hf (fun _ hf => ?_) (fun _ hf => ?_)
  · exact r_M_seldom_17 hf
  · refine run_seg (k := 3) (s' := (11, [some (vR 111), some (vI p1), none, none, none], [vI 1, vI 0, vI p1], σ)) rfl ?_
    refine run_callN (w := fun a => some (vI a)) (m := 216) (as := [vI p1, vI 0, vI 1]) (pc := 14) (ls := [some (vR 111), some (vI p1), none, none, none]) (st' := []) (σ := σ) hf rfl (fun _ h => (c_M_isIn h).mono (by decide)) (fun r1 hf => ?_)
    refine run_seg (k := 1) (s' := (if r1 = 0 then (17, [some (vR 111), some (vI p1), none, none, none], [], σ) else (22, [some (vR 111), some (vI p1), none, none, none], [], σ))) rfl ?_
    refine run_ite hf (fun _ hf => ?_) (fun _ hf => ?_)
    · exact r_M_seldom_17 hf
    · refine run_seg (k := 3) (s' := (27, [some (vR 111), some (vI p1), none, none, none], [], upS σ 111 0 0)) rfl ?_
      refine run_let (fun σ2 => (27, [some (vR 111), some (vI p1), none, none, none], [], σ2)) hf (fun σ2 hf => ?_)
      refine run_seg (k := 4) (s' := (32, [some (vR 111), some (vI p1), some (vL 0), none, some (vI 1)], [], σ2)) rfl ?_
      exact r_M_seldom_32 1000000 hf
/-- BentPennyModel.isCoin(I)Z -/
def f_M_isCoin (p1 : Int) (σ : xSt) : Option (Int) :=
  xbR (f_M_has (σ 113 40) p1 σ) fun r1 =>
  some (xnb r1)
theorem c_M_isCoin {p1 : Int} {σ : xSt} {r : Int} (hf : f_M_isCoin p1 σ = some r) : Call (1 + 1) 321 [vR 111, vI p1] σ ((tI σ) r).1 ((tI σ) r).2 := by
  unfold f_M_isCoin at hf
  refine call_of (own := 12) (rk := 2) (cd := kX12_isCoin) (ls := [some (vR 111), some (vI p1)]) (rT := (tI σ)) rfl rfl rfl rfl rfl ?_
  refine run_seg (k := 5) (s' := (8, [some (vR 111), some (vI p1)], [vI p1, vI (σ 113 40)], σ)) rfl ?_
  refine run_callN (w := fun a => some (vI a)) (m := 217) (as := [vI (σ 113 40), vI p1]) (pc := 11) (ls := [some (vR 111), some (vI p1)]) (st' := []) (σ := σ) hf rfl (fun _ h => (c_M_has h).mono (by decide)) (fun r1 hf => ?_)
  exact run_ret hf rfl
def f_M_layCoins_7 : Nat → Int → xSt → Option (xSt)
  | 0, _, _ => none
  | n + 1, l1, σ =>
    xbR (f_M_things σ) fun r2 =>
    if l1 < r2 then (if l1 = σ 113 2 then (xlet (w32 (l1 + 1)) fun x3 =>
    f_M_layCoins_7 n x3 σ)
    else (xbR (f_M_isCoin l1 σ) fun r4 =>
    if r4 = 0 then (xlet (w32 (l1 + 1)) fun x5 =>
    f_M_layCoins_7 n x5 σ)
    else (if 0 ≤ σ 111 57 ∧ σ 111 57 < 3 then (
    xlet (upS σ 132 (σ 111 57).toNat l1) fun σ6 =>
    xlet (upS σ6 111 57 (w32 ((σ6 111 57) + 1))) fun σ7 =>
    xlet (w32 (l1 + 1)) fun x8 =>
    f_M_layCoins_7 n x8 σ7) else none)))
    else (some σ)
/-- BentPennyModel.layCoins()V -/
def f_M_layCoins (σ : xSt) : Option (xSt) :=
  xlet (upS σ 111 57 0) fun σ1 =>
  f_M_layCoins_7 1000000 0 σ1
theorem r_M_layCoins_7 : ∀ (n : Nat) {l1 : Int} {σ : xSt} {r : xSt}, f_M_layCoins_7 n l1 σ = some r → Run 2 12 0 kX12_layCoins (7, [some (vR 111), some (vI l1)], [], σ) (tV r) := by
  intro n
  induction n with
  | zero =>
    intro _ _ _ h
    exact nomatch (show (none : Option (xSt)) = some _ from h)
  | succ n ih =>
    intro l1 σ r hf
    unfold f_M_layCoins_7 at hf
    refine run_seg (k := 2) (s' := (9, [some (vR 111), some (vI l1)], [vR 111, vI l1], σ)) rfl ?_
    refine run_callN (w := fun a => some (vI a)) (m := 245) (as := [vR 111]) (pc := 12) (ls := [some (vR 111), some (vI l1)]) (st' := [vI l1]) (σ := σ) hf rfl (fun _ h => (c_M_things h).mono (by decide)) (fun r2 hf => ?_)
    refine run_seg (k := 1) (s' := (if l1 < r2 then (15, [some (vR 111), some (vI l1)], [], σ) else (62, [some (vR 111), some (vI l1)], [], σ))) rfl ?_
    refine run_ite hf (fun _ hf => ?_) (fun _ hf => ?_)
    · refine run_seg (k := 6) (s' := (if l1 = σ 113 2 then (56, [some (vR 111), some (vI l1)], [], σ) else (25, [some (vR 111), some (vI l1)], [], σ))) rfl ?_
      refine run_ite hf (fun _ hf => ?_) (fun _ hf => ?_)
      · refine run_seg (k := 1) (s' := (59, [some (vR 111), some (vI (w32 (l1 + 1)))], [], σ)) rfl ?_
        refine run_let (fun x3 => (59, [some (vR 111), some (vI x3)], [], σ)) hf (fun x3 hf => ?_)
        refine run_seg (k := 1) (s' := (7, [some (vR 111), some (vI x3)], [], σ)) rfl ?_
        exact ih hf
      · refine run_seg (k := 2) (s' := (27, [some (vR 111), some (vI l1)], [vI l1, vR 111], σ)) rfl ?_
        refine run_callN (w := fun a => some (vI a)) (m := 321) (as := [vR 111, vI l1]) (pc := 30) (ls := [some (vR 111), some (vI l1)]) (st' := []) (σ := σ) hf rfl (fun _ h => (c_M_isCoin h).mono (by decide)) (fun r4 hf => ?_)
        refine run_seg (k := 1) (s' := (if r4 = 0 then (33, [some (vR 111), some (vI l1)], [], σ) else (36, [some (vR 111), some (vI l1)], [], σ))) rfl ?_
        refine run_ite hf (fun _ hf => ?_) (fun _ hf => ?_)
        · refine run_seg (k := 2) (s' := (59, [some (vR 111), some (vI (w32 (l1 + 1)))], [], σ)) rfl ?_
          refine run_let (fun x5 => (59, [some (vR 111), some (vI x5)], [], σ)) hf (fun x5 hf => ?_)
          refine run_seg (k := 1) (s' := (7, [some (vR 111), some (vI x5)], [], σ)) rfl ?_
          exact ih hf
        · refine run_seg (k := 5) (s' := (45, [some (vR 111), some (vI l1)], [vI l1, vI (σ 111 57), vR 132], σ)) rfl ?_
          refine run_guard (s' := (46, [some (vR 111), some (vI l1)], [], upS σ 132 (σ 111 57).toNat l1)) hf rfl (fun hf => ?_)
          refine run_let (fun σ6 => (46, [some (vR 111), some (vI l1)], [], σ6)) hf (fun σ6 hf => ?_)
          refine run_seg (k := 6) (s' := (56, [some (vR 111), some (vI l1)], [], upS σ6 111 57 (w32 ((σ6 111 57) + 1)))) rfl ?_
          refine run_let (fun σ7 => (56, [some (vR 111), some (vI l1)], [], σ7)) hf (fun σ7 hf => ?_)
          refine run_seg (k := 1) (s' := (59, [some (vR 111), some (vI (w32 (l1 + 1)))], [], σ7)) rfl ?_
          refine run_let (fun x8 => (59, [some (vR 111), some (vI x8)], [], σ7)) hf (fun x8 hf => ?_)
          refine run_seg (k := 1) (s' := (7, [some (vR 111), some (vI x8)], [], σ7)) rfl ?_
          exact ih hf
    · exact run_ret hf rfl
theorem c_M_layCoins {σ : xSt} {r : xSt} (hf : f_M_layCoins σ = some r) : Call (2 + 1) 320 [vR 111] σ (tV r).1 (tV r).2 := by
  unfold f_M_layCoins at hf
  refine call_of (own := 12) (rk := 0) (cd := kX12_layCoins) (ls := [some (vR 111), none]) (rT := tV) rfl rfl rfl rfl rfl ?_
  refine run_seg (k := 3) (s' := (5, [some (vR 111), none], [], upS σ 111 57 0)) rfl ?_
  refine run_let (fun σ1 => (5, [some (vR 111), none], [], σ1)) hf (fun σ1 hf => ?_)
  refine run_seg (k := 2) (s' := (7, [some (vR 111), some (vI 0)], [], σ1)) rfl ?_
  exact r_M_layCoins_7 1000000 hf
/-- BentPennyModel.addSide(IJJ)V -/
def f_M_addSide (p1 : Int) (p2 : Int) (p3 : Int) (σ : xSt) : Option (xSt) :=
  if p1 < 3 then (if 0 ≤ p1 ∧ p1 < 4 then (
  if 0 ≤ p1 ∧ p1 < 4 then (
  xlet (upS σ 134 p1.toNat (w64 ((σ 134 p1.toNat) + (w64 (p2 * p3))))) fun σ1 =>
  xlet (upS σ1 134 3 (w64 ((σ1 134 3) + (w64 (p2 * p3))))) fun σ2 =>
  some σ2) else none) else none)
  else (if 0 ≤ xdiv (w32 (p1 - 3)) 9 ∧ xdiv (w32 (p1 - 3)) 9 < 3 then (
  xlet (σ 132 (xdiv (w32 (p1 - 3)) 9).toNat) fun x3 =>
  xlet (xrem (w32 (p1 - 3)) 9) fun x4 =>
  xbR (f_M_partsOf x3 σ) fun r5 =>
  if r5 = 0 then none else
  xlet (xldiv p3 r5) fun x6 =>
  if 0 ≤ xdiv x4 3 ∧ xdiv x4 3 < 4 then (
  xbR (f_M_sideOf x3 0 σ) fun r7 =>
  if 0 ≤ xdiv x4 3 ∧ xdiv x4 3 < 4 then (
  xlet (upS σ 134 (xdiv x4 3).toNat (w64 ((σ 134 (xdiv x4 3).toNat) + (w64 ((w64 (p2 * r7)) * x6))))) fun σ8 =>
  if 0 ≤ xrem x4 3 ∧ xrem x4 3 < 4 then (
  xbR (f_M_sideOf x3 1 σ8) fun r9 =>
  if 0 ≤ xrem x4 3 ∧ xrem x4 3 < 4 then (
  xlet (upS σ8 134 (xrem x4 3).toNat (w64 ((σ8 134 (xrem x4 3).toNat) + (w64 ((w64 (p2 * r9)) * x6))))) fun σ10 =>
  xlet (upS σ10 134 3 (w64 ((σ10 134 3) + (w64 ((w64 (2 * p2)) * p3))))) fun σ11 =>
  some σ11) else none) else none) else none) else none) else none)
theorem c_M_addSide {p1 : Int} {p2 : Int} {p3 : Int} {σ : xSt} {r : xSt} (hf : f_M_addSide p1 p2 p3 σ = some r) : Call (1 + 1) 322 [vR 111, vI p1, vL p2, vL p3] σ (tV r).1 (tV r).2 := by
  unfold f_M_addSide at hf
  refine call_of (own := 12) (rk := 0) (cd := kX12_addSide) (ls := [some (vR 111), some (vI p1), some (vL p2), none, some (vL p3), none, none, none, none, none]) (rT := tV) rfl rfl rfl rfl rfl ?_
  refine run_seg (k := 3) (s' := (if p1 < 3 then (5, [some (vR 111), some (vI p1), some (vL p2), none, some (vL p3), none, none, none, none, none], [], σ) else (32, [some (vR 111), some (vI p1), some (vL p2), none, some (vL p3), none, none, none, none, none], [], σ))) rfl ?_
  refine run_ite hf (fun _ hf => ?_) (fun _ hf => ?_)
  · refine run_seg (k := 4) (s' := (11, [some (vR 111), some (vI p1), some (vL p2), none, some (vL p3), none, none, none, none, none], [vI p1, vR 134, vI p1, vR 134], σ)) rfl ?_
    refine run_guard (s' := (12, [some (vR 111), some (vI p1), some (vL p2), none, some (vL p3), none, none, none, none, none], [vL (σ 134 p1.toNat), vI p1, vR 134], σ)) hf rfl (fun hf => ?_)
    refine run_seg (k := 4) (s' := (17, [some (vR 111), some (vI p1), some (vL p2), none, some (vL p3), none, none, none, none, none], [vL (w64 ((σ 134 p1.toNat) + (w64 (p2 * p3)))), vI p1, vR 134], σ)) rfl ?_
    refine run_guard (s' := (18, [some (vR 111), some (vI p1), some (vL p2), none, some (vL p3), none, none, none, none, none], [], upS σ 134 p1.toNat (w64 ((σ 134 p1.toNat) + (w64 (p2 * p3)))))) hf rfl (fun hf => ?_)
    refine run_let (fun σ1 => (18, [some (vR 111), some (vI p1), some (vL p2), none, some (vL p3), none, none, none, none, none], [], σ1)) hf (fun σ1 hf => ?_)
    refine run_seg (k := 10) (s' := (31, [some (vR 111), some (vI p1), some (vL p2), none, some (vL p3), none, none, none, none, none], [], upS σ1 134 3 (w64 ((σ1 134 3) + (w64 (p2 * p3)))))) rfl ?_
    refine run_let (fun σ2 => (31, [some (vR 111), some (vI p1), some (vL p2), none, some (vL p3), none, none, none, none, none], [], σ2)) hf (fun σ2 hf => ?_)
    exact run_ret hf rfl
  · refine run_seg (k := 7) (s' := (42, [some (vR 111), some (vI p1), some (vL p2), none, some (vL p3), none, none, none, none, none], [vI (xdiv (w32 (p1 - 3)) 9), vR 132], σ)) rfl ?_
    refine run_guard (s' := (43, [some (vR 111), some (vI p1), some (vL p2), none, some (vL p3), none, none, none, none, none], [vI (σ 132 (xdiv (w32 (p1 - 3)) 9).toNat)], σ)) hf rfl (fun hf => ?_)
    refine run_seg (k := 1) (s' := (45, [some (vR 111), some (vI p1), some (vL p2), none, some (vL p3), none, some (vI (σ 132 (xdiv (w32 (p1 - 3)) 9).toNat)), none, none, none], [], σ)) rfl ?_
    refine run_let (fun x3 => (45, [some (vR 111), some (vI p1), some (vL p2), none, some (vL p3), none, some (vI x3), none, none, none], [], σ)) hf (fun x3 hf => ?_)
    refine run_seg (k := 6) (s' := (53, [some (vR 111), some (vI p1), some (vL p2), none, some (vL p3), none, some (vI x3), some (vI (xrem (w32 (p1 - 3)) 9)), none, none], [], σ)) rfl ?_
    refine run_let (fun x4 => (53, [some (vR 111), some (vI p1), some (vL p2), none, some (vL p3), none, some (vI x3), some (vI x4), none, none], [], σ)) hf (fun x4 hf => ?_)
    refine run_seg (k := 4) (s' := (61, [some (vR 111), some (vI p1), some (vL p2), none, some (vL p3), none, some (vI x3), some (vI x4), none, none], [vI x3, vR 113, vL p3], σ)) rfl ?_
    refine run_callN (w := fun a => some (vI a)) (m := 235) (as := [vR 113, vI x3]) (pc := 64) (ls := [some (vR 111), some (vI p1), some (vL p2), none, some (vL p3), none, some (vI x3), some (vI x4), none, none]) (st' := [vL p3]) (σ := σ) hf rfl (fun _ h => (c_M_partsOf h).mono (by decide)) (fun r5 hf => ?_)
    refine run_seg (k := 1) (s' := (65, [some (vR 111), some (vI p1), some (vL p2), none, some (vL p3), none, some (vI x3), some (vI x4), none, none], [vL r5, vL p3], σ)) rfl ?_
    refine run_gdiv (s' := (66, [some (vR 111), some (vI p1), some (vL p2), none, some (vL p3), none, some (vI x3), some (vI x4), none, none], [vL (xldiv p3 r5)], σ)) hf rfl (fun hf => ?_)
    refine run_seg (k := 1) (s' := (68, [some (vR 111), some (vI p1), some (vL p2), none, some (vL p3), none, some (vI x3), some (vI x4), some (vL (xldiv p3 r5)), none], [], σ)) rfl ?_
    refine run_let (fun x6 => (68, [some (vR 111), some (vI p1), some (vL p2), none, some (vL p3), none, some (vI x3), some (vI x4), some (vL x6), none], [], σ)) hf (fun x6 hf => ?_)
    refine run_seg (k := 6) (s' := (77, [some (vR 111), some (vI p1), some (vL p2), none, some (vL p3), none, some (vI x3), some (vI x4), some (vL x6), none], [vI (xdiv x4 3), vR 134, vI (xdiv x4 3), vR 134], σ)) rfl ?_
    refine run_guard (s' := (78, [some (vR 111), some (vI p1), some (vL p2), none, some (vL p3), none, some (vI x3), some (vI x4), some (vL x6), none], [vL (σ 134 (xdiv x4 3).toNat), vI (xdiv x4 3), vR 134], σ)) hf rfl (fun hf => ?_)
    refine run_seg (k := 5) (s' := (86, [some (vR 111), some (vI p1), some (vL p2), none, some (vL p3), none, some (vI x3), some (vI x4), some (vL x6), none], [vI 0, vI x3, vR 113, vL p2, vL (σ 134 (xdiv x4 3).toNat), vI (xdiv x4 3), vR 134], σ)) rfl ?_
    refine run_callN (w := fun a => some (vI a)) (m := 236) (as := [vR 113, vI x3, vI 0]) (pc := 89) (ls := [some (vR 111), some (vI p1), some (vL p2), none, some (vL p3), none, some (vI x3), some (vI x4), some (vL x6), none]) (st' := [vL p2, vL (σ 134 (xdiv x4 3).toNat), vI (xdiv x4 3), vR 134]) (σ := σ) hf rfl (fun _ h => (c_M_sideOf h).mono (by decide)) (fun r7 hf => ?_)
    refine run_seg (k := 5) (s' := (95, [some (vR 111), some (vI p1), some (vL p2), none, some (vL p3), none, some (vI x3), some (vI x4), some (vL x6), none], [vL (w64 ((σ 134 (xdiv x4 3).toNat) + (w64 ((w64 (p2 * r7)) * x6)))), vI (xdiv x4 3), vR 134], σ)) rfl ?_
    refine run_guard (s' := (96, [some (vR 111), some (vI p1), some (vL p2), none, some (vL p3), none, some (vI x3), some (vI x4), some (vL x6), none], [], upS σ 134 (xdiv x4 3).toNat (w64 ((σ 134 (xdiv x4 3).toNat) + (w64 ((w64 (p2 * r7)) * x6)))))) hf rfl (fun hf => ?_)
    refine run_let (fun σ8 => (96, [some (vR 111), some (vI p1), some (vL p2), none, some (vL p3), none, some (vI x3), some (vI x4), some (vL x6), none], [], σ8)) hf (fun σ8 hf => ?_)
    refine run_seg (k := 6) (s' := (105, [some (vR 111), some (vI p1), some (vL p2), none, some (vL p3), none, some (vI x3), some (vI x4), some (vL x6), none], [vI (xrem x4 3), vR 134, vI (xrem x4 3), vR 134], σ8)) rfl ?_
    refine run_guard (s' := (106, [some (vR 111), some (vI p1), some (vL p2), none, some (vL p3), none, some (vI x3), some (vI x4), some (vL x6), none], [vL (σ8 134 (xrem x4 3).toNat), vI (xrem x4 3), vR 134], σ8)) hf rfl (fun hf => ?_)
    refine run_seg (k := 5) (s' := (114, [some (vR 111), some (vI p1), some (vL p2), none, some (vL p3), none, some (vI x3), some (vI x4), some (vL x6), none], [vI 1, vI x3, vR 113, vL p2, vL (σ8 134 (xrem x4 3).toNat), vI (xrem x4 3), vR 134], σ8)) rfl ?_
    refine run_callN (w := fun a => some (vI a)) (m := 236) (as := [vR 113, vI x3, vI 1]) (pc := 117) (ls := [some (vR 111), some (vI p1), some (vL p2), none, some (vL p3), none, some (vI x3), some (vI x4), some (vL x6), none]) (st' := [vL p2, vL (σ8 134 (xrem x4 3).toNat), vI (xrem x4 3), vR 134]) (σ := σ8) hf rfl (fun _ h => (c_M_sideOf h).mono (by decide)) (fun r9 hf => ?_)
    refine run_seg (k := 5) (s' := (123, [some (vR 111), some (vI p1), some (vL p2), none, some (vL p3), none, some (vI x3), some (vI x4), some (vL x6), none], [vL (w64 ((σ8 134 (xrem x4 3).toNat) + (w64 ((w64 (p2 * r9)) * x6)))), vI (xrem x4 3), vR 134], σ8)) rfl ?_
    refine run_guard (s' := (124, [some (vR 111), some (vI p1), some (vL p2), none, some (vL p3), none, some (vI x3), some (vI x4), some (vL x6), none], [], upS σ8 134 (xrem x4 3).toNat (w64 ((σ8 134 (xrem x4 3).toNat) + (w64 ((w64 (p2 * r9)) * x6)))))) hf rfl (fun hf => ?_)
    refine run_let (fun σ10 => (124, [some (vR 111), some (vI p1), some (vL p2), none, some (vL p3), none, some (vI x3), some (vI x4), some (vL x6), none], [], σ10)) hf (fun σ10 hf => ?_)
    refine run_seg (k := 12) (s' := (141, [some (vR 111), some (vI p1), some (vL p2), none, some (vL p3), none, some (vI x3), some (vI x4), some (vL x6), none], [], upS σ10 134 3 (w64 ((σ10 134 3) + (w64 ((w64 (2 * p2)) * p3)))))) rfl ?_
    refine run_let (fun σ11 => (141, [some (vR 111), some (vI p1), some (vL p2), none, some (vL p3), none, some (vI x3), some (vI x4), some (vL x6), none], [], σ11)) hf (fun σ11 hf => ?_)
    exact run_ret hf rfl
def f_M_best_323 (k69 : (Int → Int → Int → Int → Int → xSt → Option (Int × xSt))) (k90 : (Int → Int → Int → Int → Int → Int → Int → xSt → Option (Int × xSt))) (l1 : Int) (l4 : Int) (l6 : Int) (l8 : Int) (l9 : Int) (l10 : Int) (l11 : Int) (l12 : Int) (s0 : Int) (s1 : Int) (σ : xSt) : Option (Int × xSt) :=
  xlet (w32 (s1 + s0)) fun x31 =>
  xlet (upS σ 133 0 l9) fun σ32 =>
  xlet (upS σ32 133 1 l11) fun σ33 =>
  xlet (upS σ33 133 2 l12) fun σ34 =>
  xlet (w32 (l10 + 1)) fun x35 =>
  k90 l1 x31 l4 l6 l8 l9 x35 σ34
def f_M_best_311 (k69 : (Int → Int → Int → Int → Int → xSt → Option (Int × xSt))) (k90 : (Int → Int → Int → Int → Int → Int → Int → xSt → Option (Int × xSt))) (l1 : Int) (l4 : Int) (l6 : Int) (l8 : Int) (l9 : Int) (l10 : Int) (l11 : Int) (l12 : Int) (s0 : Int) (s1 : Int) (σ : xSt) : Option (Int × xSt) :=
  if l12 < 3 then (f_M_best_323 (k69) (k90) l1 l4 l6 l8 l9 l10 l11 l12 0 (w32 (s1 + s0)) σ)
  else (f_M_best_323 (k69) (k90) l1 l4 l6 l8 l9 l10 l11 l12 2 (w32 (s1 + s0)) σ)
def f_M_best_268 (k69 : (Int → Int → Int → Int → Int → xSt → Option (Int × xSt))) (k90 : (Int → Int → Int → Int → Int → Int → Int → xSt → Option (Int × xSt))) (l1 : Int) (l8 : Int) (l9 : Int) (l10 : Int) (l11 : Int) (l12 : Int) (l13 : Int) (σ : xSt) : Option (Int × xSt) :=
  xbR (f_M_common (σ 134 3) l13 σ) fun r28 =>
  if r28 = 0 then none else
  xlet (xldiv (σ 134 3) r28) fun x29 =>
  if r28 = 0 then none else
  xlet (xldiv l13 r28) fun x30 =>
  if l11 < 3 then (f_M_best_311 (k69) (k90) l1 x29 x30 l8 l9 l10 l11 l12 0 3 σ)
  else (f_M_best_311 (k69) (k90) l1 x29 x30 l8 l9 l10 l11 l12 2 3 σ)
def f_M_best_117 (k69 : (Int → Int → Int → Int → Int → xSt → Option (Int × xSt))) (k90 : (Int → Int → Int → Int → Int → Int → Int → xSt → Option (Int × xSt))) : Nat → Int → Int → Int → Int → Int → Int → Int → Int → xSt → Option (Int × xSt)
  | 0, _, _, _, _, _, _, _, _, _ => none
  | n + 1, l1, l3, l4, l6, l8, l9, l10, l11, σ =>
    if l11 < 4 then (if 0 ≤ l11 ∧ l11 < 4 then (
    xlet (upS σ 134 l11.toNat 0) fun σ16 =>
    xlet (w32 (l11 + 1)) fun x17 =>
    f_M_best_117 k69 k90 n l1 l3 l4 l6 l8 l9 l10 x17 σ16) else none)
    else (if w32 (3 + (w32 (9 * (σ 111 57)))) = 0 then none else
    xlet (xdiv l10 (w32 (3 + (w32 (9 * (σ 111 57)))))) fun x18 =>
    if w32 (3 + (w32 (9 * (σ 111 57)))) = 0 then none else
    xlet (xrem l10 (w32 (3 + (w32 (9 * (σ 111 57)))))) fun x19 =>
    xbR (f_M_sideOf l9 0 σ) fun r20 =>
    xbR (f_M_addSide x18 r20 l1 σ) fun σ21 =>
    xbR (f_M_sideOf l9 1 σ21) fun r22 =>
    xbR (f_M_addSide x19 r22 l1 σ21) fun σ23 =>
    xlet (w64 ((σ23 134 0) + (σ23 134 1))) fun x24 =>
    if xlc x24 0 = 0 then (xlet (w32 (l10 + 1)) fun x25 =>
    k90 l1 l3 l4 l6 l8 l9 x25 σ23)
    else (if xlc (σ23 134 0) (σ23 134 1) = 0 then (if l3 = (-1) then (f_M_best_268 (k69) (k90) l1 l8 l9 l10 x18 x19 x24 σ23)
    else (if xlc (w64 ((σ23 134 3) * l6)) (w64 (l4 * x24)) < 0 then (f_M_best_268 (k69) (k90) l1 l8 l9 l10 x18 x19 x24 σ23)
    else (xlet (w32 (l10 + 1)) fun x26 =>
    k90 l1 l3 l4 l6 l8 l9 x26 σ23)))
    else (xlet (w32 (l10 + 1)) fun x27 =>
    k90 l1 l3 l4 l6 l8 l9 x27 σ23)))
def f_M_best_90 (k69 : (Int → Int → Int → Int → Int → xSt → Option (Int × xSt))) : Nat → Int → Int → Int → Int → Int → Int → Int → xSt → Option (Int × xSt)
  | 0, _, _, _, _, _, _, _, _ => none
  | n + 1, l1, l3, l4, l6, l8, l9, l10, σ =>
    if l10 < w32 ((w32 (3 + (w32 (9 * (σ 111 57))))) * (w32 (3 + (w32 (9 * (σ 111 57)))))) then (f_M_best_117 (k69) (fun z0 z1 z2 z3 z4 z5 z6 sz => f_M_best_90 k69 n z0 z1 z2 z3 z4 z5 z6 sz) 1000000 l1 l3 l4 l6 l8 l9 l10 0 σ)
    else (xlet (w32 (l8 + 1)) fun x13 =>
    k69 l1 l3 l4 l6 x13 σ)
def f_M_best_398 : Nat → Int → Int → xSt → Option (Int × xSt)
  | 0, _, _, _ => none
  | n + 1, l3, l8, σ =>
    if l8 < 3 then (if 0 ≤ l8 ∧ l8 < 3 then (
    if 0 ≤ l8 ∧ l8 < 3 then (
    xlet (upS σ 135 l8.toNat (σ 132 l8.toNat)) fun σ14 =>
    xlet (w32 (l8 + 1)) fun x15 =>
    f_M_best_398 n l3 x15 σ14) else none) else none)
    else (some (l3, σ))
def f_M_best_69 : Nat → Int → Int → Int → Int → Int → xSt → Option (Int × xSt)
  | 0, _, _, _, _, _, _ => none
  | n + 1, l1, l3, l4, l6, l8, σ =>
    if l8 < σ 111 57 then (if 0 ≤ l8 ∧ l8 < 3 then (
    xlet (σ 132 l8.toNat) fun x8 =>
    f_M_best_90 (fun z0 z1 z2 z3 z4 sz => f_M_best_69 n z0 z1 z2 z3 z4 sz) 1000000 l1 l3 l4 l6 l8 x8 0 σ) else none)
    else (if l3 = (-1) then (some ((-1), σ))
    else (xlet (upS σ 111 58 l3) fun σ9 =>
    xlet (upS σ9 111 59 (σ9 113 3)) fun σ10 =>
    xlet (upS σ10 111 60 l4) fun σ11 =>
    xlet (upS σ11 111 61 l6) fun σ12 =>
    f_M_best_398 1000000 l3 0 σ12))
def f_M_best_27 : Nat → Int → Int → xSt → Option (Int × xSt)
  | 0, _, _, _ => none
  | n + 1, l1, l3, σ =>
    if l3 < σ 111 57 then (if 0 ≤ l3 ∧ l3 < 3 then (
    xbR (f_M_partsOf (σ 132 l3.toNat) σ) fun r5 =>
    xlet (w64 (l1 * r5)) fun x6 =>
    xlet (w32 (l3 + 1)) fun x7 =>
    f_M_best_27 n x6 x7 σ) else none)
    else (f_M_best_69 1000000 l1 (-1) 0 1 0 σ)
/-- BentPennyModel.best()I -/
def f_M_best (σ : xSt) : Option (Int × xSt) :=
  xlet (upS σ 111 0 0) fun σ1 =>
  xbR (f_M_lay σ1) fun σ2 =>
  xbR (f_M_ends σ2) fun r3 =>
  if r3 < 2 then (some ((-1), σ2))
  else (xbR (f_M_layCoins σ2) fun σ4 =>
  f_M_best_27 1000000 1 0 σ4)
theorem r_M_best_323 {k69 : (Int → Int → Int → Int → Int → xSt → Option (Int × xSt))} (hk69 : ∀ {l1 : Int} {l3 : Int} {l4 : Int} {l6 : Int} {l8 : Int} {g9 : Option xV} {g10 : Option xV} {g11 : Option xV} {g12 : Option xV} {g13 : Option xV} {g14 : Option xV} {g15 : Option xV} {g16 : Option xV} {σ : xSt} {r : Int × xSt}, k69 l1 l3 l4 l6 l8 σ = some r → Run 3 12 1 kX12_best (69, [some (vR 111), some (vL l1), none, some (vI l3), some (vL l4), none, some (vL l6), none, some (vI l8), g9, g10, g11, g12, g13, g14, g15, g16], [], σ) (tIW r)) {k90 : (Int → Int → Int → Int → Int → Int → Int → xSt → Option (Int × xSt))} (hk90 : ∀ {l1 : Int} {l3 : Int} {l4 : Int} {l6 : Int} {l8 : Int} {l9 : Int} {l10 : Int} {g11 : Option xV} {g12 : Option xV} {g13 : Option xV} {g14 : Option xV} {g15 : Option xV} {g16 : Option xV} {σ : xSt} {r : Int × xSt}, k90 l1 l3 l4 l6 l8 l9 l10 σ = some r → Run 3 12 1 kX12_best (90, [some (vR 111), some (vL l1), none, some (vI l3), some (vL l4), none, some (vL l6), none, some (vI l8), some (vI l9), some (vI l10), g11, g12, g13, g14, g15, g16], [], σ) (tIW r)) {l1 : Int} {l4 : Int} {l6 : Int} {l8 : Int} {l9 : Int} {l10 : Int} {l11 : Int} {l12 : Int} {s0 : Int} {s1 : Int} {g3 : Option xV} {g13 : Option xV} {g14 : Option xV} {g15 : Option xV} {g16 : Option xV} {σ : xSt} {r : Int × xSt} (hf : f_M_best_323 k69 k90 l1 l4 l6 l8 l9 l10 l11 l12 s0 s1 σ = some r) : Run 3 12 1 kX12_best (323, [some (vR 111), some (vL l1), none, g3, some (vL l4), none, some (vL l6), none, some (vI l8), some (vI l9), some (vI l10), some (vI l11), some (vI l12), g13, g14, g15, g16], [vI s0, vI s1], σ) (tIW r) := by
  unfold f_M_best_323 at hf
  refine run_seg (k := 2) (s' := (325, [some (vR 111), some (vL l1), none, some (vI (w32 (s1 + s0))), some (vL l4), none, some (vL l6), none, some (vI l8), some (vI l9), some (vI l10), some (vI l11), some (vI l12), g13, g14, g15, g16], [], σ)) rfl ?_
  refine run_let (fun x31 => (325, [some (vR 111), some (vL l1), none, some (vI x31), some (vL l4), none, some (vL l6), none, some (vI l8), some (vI l9), some (vI l10), some (vI l11), some (vI l12), g13, g14, g15, g16], [], σ)) hf (fun x31 hf => ?_)
  refine run_seg (k := 5) (s' := (333, [some (vR 111), some (vL l1), none, some (vI x31), some (vL l4), none, some (vL l6), none, some (vI l8), some (vI l9), some (vI l10), some (vI l11), some (vI l12), g13, g14, g15, g16], [], upS σ 133 0 l9)) rfl ?_
  refine run_let (fun σ32 => (333, [some (vR 111), some (vL l1), none, some (vI x31), some (vL l4), none, some (vL l6), none, some (vI l8), some (vI l9), some (vI l10), some (vI l11), some (vI l12), g13, g14, g15, g16], [], σ32)) hf (fun σ32 hf => ?_)
  refine run_seg (k := 5) (s' := (341, [some (vR 111), some (vL l1), none, some (vI x31), some (vL l4), none, some (vL l6), none, some (vI l8), some (vI l9), some (vI l10), some (vI l11), some (vI l12), g13, g14, g15, g16], [], upS σ32 133 1 l11)) rfl ?_
  refine run_let (fun σ33 => (341, [some (vR 111), some (vL l1), none, some (vI x31), some (vL l4), none, some (vL l6), none, some (vI l8), some (vI l9), some (vI l10), some (vI l11), some (vI l12), g13, g14, g15, g16], [], σ33)) hf (fun σ33 hf => ?_)
  refine run_seg (k := 5) (s' := (349, [some (vR 111), some (vL l1), none, some (vI x31), some (vL l4), none, some (vL l6), none, some (vI l8), some (vI l9), some (vI l10), some (vI l11), some (vI l12), g13, g14, g15, g16], [], upS σ33 133 2 l12)) rfl ?_
  refine run_let (fun σ34 => (349, [some (vR 111), some (vL l1), none, some (vI x31), some (vL l4), none, some (vL l6), none, some (vI l8), some (vI l9), some (vI l10), some (vI l11), some (vI l12), g13, g14, g15, g16], [], σ34)) hf (fun σ34 hf => ?_)
  refine run_seg (k := 1) (s' := (352, [some (vR 111), some (vL l1), none, some (vI x31), some (vL l4), none, some (vL l6), none, some (vI l8), some (vI l9), some (vI (w32 (l10 + 1))), some (vI l11), some (vI l12), g13, g14, g15, g16], [], σ34)) rfl ?_
  refine run_let (fun x35 => (352, [some (vR 111), some (vL l1), none, some (vI x31), some (vL l4), none, some (vL l6), none, some (vI l8), some (vI l9), some (vI x35), some (vI l11), some (vI l12), g13, g14, g15, g16], [], σ34)) hf (fun x35 hf => ?_)
  refine run_seg (k := 1) (s' := (90, [some (vR 111), some (vL l1), none, some (vI x31), some (vL l4), none, some (vL l6), none, some (vI l8), some (vI l9), some (vI x35), some (vI l11), some (vI l12), g13, g14, g15, g16], [], σ34)) rfl ?_
  exact hk90 hf
theorem r_M_best_311 {k69 : (Int → Int → Int → Int → Int → xSt → Option (Int × xSt))} (hk69 : ∀ {l1 : Int} {l3 : Int} {l4 : Int} {l6 : Int} {l8 : Int} {g9 : Option xV} {g10 : Option xV} {g11 : Option xV} {g12 : Option xV} {g13 : Option xV} {g14 : Option xV} {g15 : Option xV} {g16 : Option xV} {σ : xSt} {r : Int × xSt}, k69 l1 l3 l4 l6 l8 σ = some r → Run 3 12 1 kX12_best (69, [some (vR 111), some (vL l1), none, some (vI l3), some (vL l4), none, some (vL l6), none, some (vI l8), g9, g10, g11, g12, g13, g14, g15, g16], [], σ) (tIW r)) {k90 : (Int → Int → Int → Int → Int → Int → Int → xSt → Option (Int × xSt))} (hk90 : ∀ {l1 : Int} {l3 : Int} {l4 : Int} {l6 : Int} {l8 : Int} {l9 : Int} {l10 : Int} {g11 : Option xV} {g12 : Option xV} {g13 : Option xV} {g14 : Option xV} {g15 : Option xV} {g16 : Option xV} {σ : xSt} {r : Int × xSt}, k90 l1 l3 l4 l6 l8 l9 l10 σ = some r → Run 3 12 1 kX12_best (90, [some (vR 111), some (vL l1), none, some (vI l3), some (vL l4), none, some (vL l6), none, some (vI l8), some (vI l9), some (vI l10), g11, g12, g13, g14, g15, g16], [], σ) (tIW r)) {l1 : Int} {l4 : Int} {l6 : Int} {l8 : Int} {l9 : Int} {l10 : Int} {l11 : Int} {l12 : Int} {s0 : Int} {s1 : Int} {g3 : Option xV} {g13 : Option xV} {g14 : Option xV} {g15 : Option xV} {g16 : Option xV} {σ : xSt} {r : Int × xSt} (hf : f_M_best_311 k69 k90 l1 l4 l6 l8 l9 l10 l11 l12 s0 s1 σ = some r) : Run 3 12 1 kX12_best (311, [some (vR 111), some (vL l1), none, g3, some (vL l4), none, some (vL l6), none, some (vI l8), some (vI l9), some (vI l10), some (vI l11), some (vI l12), g13, g14, g15, g16], [vI s0, vI s1], σ) (tIW r) := by
  unfold f_M_best_311 at hf
  refine run_seg (k := 4) (s' := (if l12 < 3 then (318, [some (vR 111), some (vL l1), none, g3, some (vL l4), none, some (vL l6), none, some (vI l8), some (vI l9), some (vI l10), some (vI l11), some (vI l12), g13, g14, g15, g16], [vI (w32 (s1 + s0))], σ) else (322, [some (vR 111), some (vL l1), none, g3, some (vL l4), none, some (vL l6), none, some (vI l8), some (vI l9), some (vI l10), some (vI l11), some (vI l12), g13, g14, g15, g16], [vI (w32 (s1 + s0))], σ))) rfl ?_
  refine run_ite hf (fun _ hf => ?_) (fun _ hf => ?_)
  · refine run_seg (k := 2) (s' := (323, [some (vR 111), some (vL l1), none, g3, some (vL l4), none, some (vL l6), none, some (vI l8), some (vI l9), some (vI l10), some (vI l11), some (vI l12), g13, g14, g15, g16], [vI 0, vI (w32 (s1 + s0))], σ)) rfl ?_
    exact r_M_best_323 (hk69) (hk90) hf
  · refine run_seg (k := 1) (s' := (323, [some (vR 111), some (vL l1), none, g3, some (vL l4), none, some (vL l6), none, some (vI l8), some (vI l9), some (vI l10), some (vI l11), some (vI l12), g13, g14, g15, g16], [vI 2, vI (w32 (s1 + s0))], σ)) rfl ?_
    exact r_M_best_323 (hk69) (hk90) hf
theorem r_M_best_268 {k69 : (Int → Int → Int → Int → Int → xSt → Option (Int × xSt))} (hk69 : ∀ {l1 : Int} {l3 : Int} {l4 : Int} {l6 : Int} {l8 : Int} {g9 : Option xV} {g10 : Option xV} {g11 : Option xV} {g12 : Option xV} {g13 : Option xV} {g14 : Option xV} {g15 : Option xV} {g16 : Option xV} {σ : xSt} {r : Int × xSt}, k69 l1 l3 l4 l6 l8 σ = some r → Run 3 12 1 kX12_best (69, [some (vR 111), some (vL l1), none, some (vI l3), some (vL l4), none, some (vL l6), none, some (vI l8), g9, g10, g11, g12, g13, g14, g15, g16], [], σ) (tIW r)) {k90 : (Int → Int → Int → Int → Int → Int → Int → xSt → Option (Int × xSt))} (hk90 : ∀ {l1 : Int} {l3 : Int} {l4 : Int} {l6 : Int} {l8 : Int} {l9 : Int} {l10 : Int} {g11 : Option xV} {g12 : Option xV} {g13 : Option xV} {g14 : Option xV} {g15 : Option xV} {g16 : Option xV} {σ : xSt} {r : Int × xSt}, k90 l1 l3 l4 l6 l8 l9 l10 σ = some r → Run 3 12 1 kX12_best (90, [some (vR 111), some (vL l1), none, some (vI l3), some (vL l4), none, some (vL l6), none, some (vI l8), some (vI l9), some (vI l10), g11, g12, g13, g14, g15, g16], [], σ) (tIW r)) {l1 : Int} {l8 : Int} {l9 : Int} {l10 : Int} {l11 : Int} {l12 : Int} {l13 : Int} {g3 : Option xV} {g4 : Option xV} {g5 : Option xV} {g6 : Option xV} {g7 : Option xV} {g15 : Option xV} {g16 : Option xV} {σ : xSt} {r : Int × xSt} (hf : f_M_best_268 k69 k90 l1 l8 l9 l10 l11 l12 l13 σ = some r) : Run 3 12 1 kX12_best (268, [some (vR 111), some (vL l1), none, g3, g4, g5, g6, g7, some (vI l8), some (vI l9), some (vI l10), some (vI l11), some (vI l12), some (vL l13), none, g15, g16], [], σ) (tIW r) := by
  unfold f_M_best_268 at hf
  refine run_seg (k := 5) (s' := (276, [some (vR 111), some (vL l1), none, g3, g4, g5, g6, g7, some (vI l8), some (vI l9), some (vI l10), some (vI l11), some (vI l12), some (vL l13), none, g15, g16], [vL l13, vL (σ 134 3)], σ)) rfl ?_
  refine run_callN (w := fun a => some (vL a)) (m := 218) (as := [vL (σ 134 3), vL l13]) (pc := 279) (ls := [some (vR 111), some (vL l1), none, g3, g4, g5, g6, g7, some (vI l8), some (vI l9), some (vI l10), some (vI l11), some (vI l12), some (vL l13), none, g15, g16]) (st' := []) (σ := σ) hf rfl (fun _ h => (c_M_common h).mono (by decide)) (fun r28 hf => ?_)
  refine run_seg (k := 6) (s' := (289, [some (vR 111), some (vL l1), none, g3, g4, g5, g6, g7, some (vI l8), some (vI l9), some (vI l10), some (vI l11), some (vI l12), some (vL l13), none, some (vL r28), none], [vL r28, vL (σ 134 3)], σ)) rfl ?_
  refine run_gdiv (s' := (290, [some (vR 111), some (vL l1), none, g3, g4, g5, g6, g7, some (vI l8), some (vI l9), some (vI l10), some (vI l11), some (vI l12), some (vL l13), none, some (vL r28), none], [vL (xldiv (σ 134 3) r28)], σ)) hf rfl (fun hf => ?_)
  refine run_seg (k := 1) (s' := (292, [some (vR 111), some (vL l1), none, g3, some (vL (xldiv (σ 134 3) r28)), none, g6, g7, some (vI l8), some (vI l9), some (vI l10), some (vI l11), some (vI l12), some (vL l13), none, some (vL r28), none], [], σ)) rfl ?_
  refine run_let (fun x29 => (292, [some (vR 111), some (vL l1), none, g3, some (vL x29), none, g6, g7, some (vI l8), some (vI l9), some (vI l10), some (vI l11), some (vI l12), some (vL l13), none, some (vL r28), none], [], σ)) hf (fun x29 hf => ?_)
  refine run_seg (k := 2) (s' := (296, [some (vR 111), some (vL l1), none, g3, some (vL x29), none, g6, g7, some (vI l8), some (vI l9), some (vI l10), some (vI l11), some (vI l12), some (vL l13), none, some (vL r28), none], [vL r28, vL l13], σ)) rfl ?_
  refine run_gdiv (s' := (297, [some (vR 111), some (vL l1), none, g3, some (vL x29), none, g6, g7, some (vI l8), some (vI l9), some (vI l10), some (vI l11), some (vI l12), some (vL l13), none, some (vL r28), none], [vL (xldiv l13 r28)], σ)) hf rfl (fun hf => ?_)
  refine run_seg (k := 1) (s' := (299, [some (vR 111), some (vL l1), none, g3, some (vL x29), none, some (vL (xldiv l13 r28)), none, some (vI l8), some (vI l9), some (vI l10), some (vI l11), some (vI l12), some (vL l13), none, some (vL r28), none], [], σ)) rfl ?_
  refine run_let (fun x30 => (299, [some (vR 111), some (vL l1), none, g3, some (vL x29), none, some (vL x30), none, some (vI l8), some (vI l9), some (vI l10), some (vI l11), some (vI l12), some (vL l13), none, some (vL r28), none], [], σ)) hf (fun x30 hf => ?_)
  refine run_seg (k := 4) (s' := (if l11 < 3 then (306, [some (vR 111), some (vL l1), none, g3, some (vL x29), none, some (vL x30), none, some (vI l8), some (vI l9), some (vI l10), some (vI l11), some (vI l12), some (vL l13), none, some (vL r28), none], [vI 3], σ) else (310, [some (vR 111), some (vL l1), none, g3, some (vL x29), none, some (vL x30), none, some (vI l8), some (vI l9), some (vI l10), some (vI l11), some (vI l12), some (vL l13), none, some (vL r28), none], [vI 3], σ))) rfl ?_
  refine run_ite hf (fun _ hf => ?_) (fun _ hf => ?_)
  · refine run_seg (k := 2) (s' := (311, [some (vR 111), some (vL l1), none, g3, some (vL x29), none, some (vL x30), none, some (vI l8), some (vI l9), some (vI l10), some (vI l11), some (vI l12), some (vL l13), none, some (vL r28), none], [vI 0, vI 3], σ)) rfl ?_
    exact r_M_best_311 (hk69) (hk90) hf
  · refine run_seg (k := 1) (s' := (311, [some (vR 111), some (vL l1), none, g3, some (vL x29), none, some (vL x30), none, some (vI l8), some (vI l9), some (vI l10), some (vI l11), some (vI l12), some (vL l13), none, some (vL r28), none], [vI 2, vI 3], σ)) rfl ?_
    exact r_M_best_311 (hk69) (hk90) hf
theorem r_M_best_117 {k69 : (Int → Int → Int → Int → Int → xSt → Option (Int × xSt))} (hk69 : ∀ {l1 : Int} {l3 : Int} {l4 : Int} {l6 : Int} {l8 : Int} {g9 : Option xV} {g10 : Option xV} {g11 : Option xV} {g12 : Option xV} {g13 : Option xV} {g14 : Option xV} {g15 : Option xV} {g16 : Option xV} {σ : xSt} {r : Int × xSt}, k69 l1 l3 l4 l6 l8 σ = some r → Run 3 12 1 kX12_best (69, [some (vR 111), some (vL l1), none, some (vI l3), some (vL l4), none, some (vL l6), none, some (vI l8), g9, g10, g11, g12, g13, g14, g15, g16], [], σ) (tIW r)) {k90 : (Int → Int → Int → Int → Int → Int → Int → xSt → Option (Int × xSt))} (hk90 : ∀ {l1 : Int} {l3 : Int} {l4 : Int} {l6 : Int} {l8 : Int} {l9 : Int} {l10 : Int} {g11 : Option xV} {g12 : Option xV} {g13 : Option xV} {g14 : Option xV} {g15 : Option xV} {g16 : Option xV} {σ : xSt} {r : Int × xSt}, k90 l1 l3 l4 l6 l8 l9 l10 σ = some r → Run 3 12 1 kX12_best (90, [some (vR 111), some (vL l1), none, some (vI l3), some (vL l4), none, some (vL l6), none, some (vI l8), some (vI l9), some (vI l10), g11, g12, g13, g14, g15, g16], [], σ) (tIW r)) : ∀ (n : Nat) {l1 : Int} {l3 : Int} {l4 : Int} {l6 : Int} {l8 : Int} {l9 : Int} {l10 : Int} {l11 : Int} {g12 : Option xV} {g13 : Option xV} {g14 : Option xV} {g15 : Option xV} {g16 : Option xV} {σ : xSt} {r : Int × xSt}, f_M_best_117 k69 k90 n l1 l3 l4 l6 l8 l9 l10 l11 σ = some r → Run 3 12 1 kX12_best (117, [some (vR 111), some (vL l1), none, some (vI l3), some (vL l4), none, some (vL l6), none, some (vI l8), some (vI l9), some (vI l10), some (vI l11), g12, g13, g14, g15, g16], [], σ) (tIW r) := by
  intro n
  induction n with
  | zero =>
    intro _ _ _ _ _ _ _ _ _ _ _ _ _ _ _ h
    exact nomatch (show (none : Option (Int × xSt)) = some _ from h)
  | succ n ih =>
    intro l1 l3 l4 l6 l8 l9 l10 l11 g12 g13 g14 g15 g16 σ r hf
    unfold f_M_best_117 at hf
    refine run_seg (k := 3) (s' := (if l11 < 4 then (123, [some (vR 111), some (vL l1), none, some (vI l3), some (vL l4), none, some (vL l6), none, some (vI l8), some (vI l9), some (vI l10), some (vI l11), g12, g13, g14, g15, g16], [], σ) else (137, [some (vR 111), some (vL l1), none, some (vI l3), some (vL l4), none, some (vL l6), none, some (vI l8), some (vI l9), some (vI l10), some (vI l11), g12, g13, g14, g15, g16], [], σ))) rfl ?_
    refine run_ite hf (fun _ hf => ?_) (fun _ hf => ?_)
    · refine run_seg (k := 4) (s' := (130, [some (vR 111), some (vL l1), none, some (vI l3), some (vL l4), none, some (vL l6), none, some (vI l8), some (vI l9), some (vI l10), some (vI l11), g12, g13, g14, g15, g16], [vL 0, vI l11, vR 134], σ)) rfl ?_
      refine run_guard (s' := (131, [some (vR 111), some (vL l1), none, some (vI l3), some (vL l4), none, some (vL l6), none, some (vI l8), some (vI l9), some (vI l10), some (vI l11), g12, g13, g14, g15, g16], [], upS σ 134 l11.toNat 0)) hf rfl (fun hf => ?_)
      refine run_let (fun σ16 => (131, [some (vR 111), some (vL l1), none, some (vI l3), some (vL l4), none, some (vL l6), none, some (vI l8), some (vI l9), some (vI l10), some (vI l11), g12, g13, g14, g15, g16], [], σ16)) hf (fun σ16 hf => ?_)
      refine run_seg (k := 1) (s' := (134, [some (vR 111), some (vL l1), none, some (vI l3), some (vL l4), none, some (vL l6), none, some (vI l8), some (vI l9), some (vI l10), some (vI (w32 (l11 + 1))), g12, g13, g14, g15, g16], [], σ16)) rfl ?_
      refine run_let (fun x17 => (134, [some (vR 111), some (vL l1), none, some (vI l3), some (vL l4), none, some (vL l6), none, some (vI l8), some (vI l9), some (vI l10), some (vI x17), g12, g13, g14, g15, g16], [], σ16)) hf (fun x17 hf => ?_)
      refine run_seg (k := 1) (s' := (117, [some (vR 111), some (vL l1), none, some (vI l3), some (vL l4), none, some (vL l6), none, some (vI l8), some (vI l9), some (vI l10), some (vI x17), g12, g13, g14, g15, g16], [], σ16)) rfl ?_
      exact ih hf
    · refine run_seg (k := 7) (s' := (148, [some (vR 111), some (vL l1), none, some (vI l3), some (vL l4), none, some (vL l6), none, some (vI l8), some (vI l9), some (vI l10), some (vI l11), g12, g13, g14, g15, g16], [vI (w32 (3 + (w32 (9 * (σ 111 57))))), vI l10], σ)) rfl ?_
      refine run_gdiv (s' := (149, [some (vR 111), some (vL l1), none, some (vI l3), some (vL l4), none, some (vL l6), none, some (vI l8), some (vI l9), some (vI l10), some (vI l11), g12, g13, g14, g15, g16], [vI (xdiv l10 (w32 (3 + (w32 (9 * (σ 111 57))))))], σ)) hf rfl (fun hf => ?_)
      refine run_seg (k := 1) (s' := (151, [some (vR 111), some (vL l1), none, some (vI l3), some (vL l4), none, some (vL l6), none, some (vI l8), some (vI l9), some (vI l10), some (vI (xdiv l10 (w32 (3 + (w32 (9 * (σ 111 57))))))), g12, g13, g14, g15, g16], [], σ)) rfl ?_
      refine run_let (fun x18 => (151, [some (vR 111), some (vL l1), none, some (vI l3), some (vL l4), none, some (vL l6), none, some (vI l8), some (vI l9), some (vI l10), some (vI x18), g12, g13, g14, g15, g16], [], σ)) hf (fun x18 hf => ?_)
      refine run_seg (k := 7) (s' := (162, [some (vR 111), some (vL l1), none, some (vI l3), some (vL l4), none, some (vL l6), none, some (vI l8), some (vI l9), some (vI l10), some (vI x18), g12, g13, g14, g15, g16], [vI (w32 (3 + (w32 (9 * (σ 111 57))))), vI l10], σ)) rfl ?_
      refine run_gdiv (s' := (163, [some (vR 111), some (vL l1), none, some (vI l3), some (vL l4), none, some (vL l6), none, some (vI l8), some (vI l9), some (vI l10), some (vI x18), g12, g13, g14, g15, g16], [vI (xrem l10 (w32 (3 + (w32 (9 * (σ 111 57))))))], σ)) hf rfl (fun hf => ?_)
      refine run_seg (k := 1) (s' := (165, [some (vR 111), some (vL l1), none, some (vI l3), some (vL l4), none, some (vL l6), none, some (vI l8), some (vI l9), some (vI l10), some (vI x18), some (vI (xrem l10 (w32 (3 + (w32 (9 * (σ 111 57))))))), g13, g14, g15, g16], [], σ)) rfl ?_
      refine run_let (fun x19 => (165, [some (vR 111), some (vL l1), none, some (vI l3), some (vL l4), none, some (vL l6), none, some (vI l8), some (vI l9), some (vI l10), some (vI x18), some (vI x19), g13, g14, g15, g16], [], σ)) hf (fun x19 hf => ?_)
      refine run_seg (k := 6) (s' := (175, [some (vR 111), some (vL l1), none, some (vI l3), some (vL l4), none, some (vL l6), none, some (vI l8), some (vI l9), some (vI l10), some (vI x18), some (vI x19), g13, g14, g15, g16], [vI 0, vI l9, vR 113, vI x18, vR 111], σ)) rfl ?_
      refine run_callN (w := fun a => some (vI a)) (m := 236) (as := [vR 113, vI l9, vI 0]) (pc := 178) (ls := [some (vR 111), some (vL l1), none, some (vI l3), some (vL l4), none, some (vL l6), none, some (vI l8), some (vI l9), some (vI l10), some (vI x18), some (vI x19), g13, g14, g15, g16]) (st' := [vI x18, vR 111]) (σ := σ) hf rfl (fun _ h => (c_M_sideOf h).mono (by decide)) (fun r20 hf => ?_)
      refine run_seg (k := 2) (s' := (180, [some (vR 111), some (vL l1), none, some (vI l3), some (vL l4), none, some (vL l6), none, some (vI l8), some (vI l9), some (vI l10), some (vI x18), some (vI x19), g13, g14, g15, g16], [vL l1, vL r20, vI x18, vR 111], σ)) rfl ?_
      refine run_callV (m := 322) (as := [vR 111, vI x18, vL r20, vL l1]) (pc := 183) (ls := [some (vR 111), some (vL l1), none, some (vI l3), some (vL l4), none, some (vL l6), none, some (vI l8), some (vI l9), some (vI l10), some (vI x18), some (vI x19), g13, g14, g15, g16]) (st' := []) (σ := σ) hf rfl (fun _ h => (c_M_addSide h).mono (by decide)) (fun σ21 hf => ?_)
      refine run_seg (k := 6) (s' := (193, [some (vR 111), some (vL l1), none, some (vI l3), some (vL l4), none, some (vL l6), none, some (vI l8), some (vI l9), some (vI l10), some (vI x18), some (vI x19), g13, g14, g15, g16], [vI 1, vI l9, vR 113, vI x19, vR 111], σ21)) rfl ?_
      refine run_callN (w := fun a => some (vI a)) (m := 236) (as := [vR 113, vI l9, vI 1]) (pc := 196) (ls := [some (vR 111), some (vL l1), none, some (vI l3), some (vL l4), none, some (vL l6), none, some (vI l8), some (vI l9), some (vI l10), some (vI x18), some (vI x19), g13, g14, g15, g16]) (st' := [vI x19, vR 111]) (σ := σ21) hf rfl (fun _ h => (c_M_sideOf h).mono (by decide)) (fun r22 hf => ?_)
      refine run_seg (k := 2) (s' := (198, [some (vR 111), some (vL l1), none, some (vI l3), some (vL l4), none, some (vL l6), none, some (vI l8), some (vI l9), some (vI l10), some (vI x18), some (vI x19), g13, g14, g15, g16], [vL l1, vL r22, vI x19, vR 111], σ21)) rfl ?_
      refine run_callV (m := 322) (as := [vR 111, vI x19, vL r22, vL l1]) (pc := 201) (ls := [some (vR 111), some (vL l1), none, some (vI l3), some (vL l4), none, some (vL l6), none, some (vI l8), some (vI l9), some (vI l10), some (vI x18), some (vI x19), g13, g14, g15, g16]) (st' := []) (σ := σ21) hf rfl (fun _ h => (c_M_addSide h).mono (by decide)) (fun σ23 hf => ?_)
      refine run_seg (k := 10) (s' := (216, [some (vR 111), some (vL l1), none, some (vI l3), some (vL l4), none, some (vL l6), none, some (vI l8), some (vI l9), some (vI l10), some (vI x18), some (vI x19), some (vL (w64 ((σ23 134 0) + (σ23 134 1)))), none, g15, g16], [], σ23)) rfl ?_
      refine run_let (fun x24 => (216, [some (vR 111), some (vL l1), none, some (vI l3), some (vL l4), none, some (vL l6), none, some (vI l8), some (vI l9), some (vI l10), some (vI x18), some (vI x19), some (vL x24), none, g15, g16], [], σ23)) hf (fun x24 hf => ?_)
      refine run_seg (k := 4) (s' := (if xlc x24 0 = 0 then (349, [some (vR 111), some (vL l1), none, some (vI l3), some (vL l4), none, some (vL l6), none, some (vI l8), some (vI l9), some (vI l10), some (vI x18), some (vI x19), some (vL x24), none, g15, g16], [], σ23) else (223, [some (vR 111), some (vL l1), none, some (vI l3), some (vL l4), none, some (vL l6), none, some (vI l8), some (vI l9), some (vI l10), some (vI x18), some (vI x19), some (vL x24), none, g15, g16], [], σ23))) rfl ?_
      refine run_ite hf (fun _ hf => ?_) (fun _ hf => ?_)
      · refine run_seg (k := 1) (s' := (352, [some (vR 111), some (vL l1), none, some (vI l3), some (vL l4), none, some (vL l6), none, some (vI l8), some (vI l9), some (vI (w32 (l10 + 1))), some (vI x18), some (vI x19), some (vL x24), none, g15, g16], [], σ23)) rfl ?_
        refine run_let (fun x25 => (352, [some (vR 111), some (vL l1), none, some (vI l3), some (vL l4), none, some (vL l6), none, some (vI l8), some (vI l9), some (vI x25), some (vI x18), some (vI x19), some (vL x24), none, g15, g16], [], σ23)) hf (fun x25 hf => ?_)
        refine run_seg (k := 1) (s' := (90, [some (vR 111), some (vL l1), none, some (vI l3), some (vL l4), none, some (vL l6), none, some (vI l8), some (vI l9), some (vI x25), some (vI x18), some (vI x19), some (vL x24), none, g15, g16], [], σ23)) rfl ?_
        exact hk90 hf
      · refine run_seg (k := 10) (s' := (if xlc (σ23 134 0) (σ23 134 1) = 0 then (242, [some (vR 111), some (vL l1), none, some (vI l3), some (vL l4), none, some (vL l6), none, some (vI l8), some (vI l9), some (vI l10), some (vI x18), some (vI x19), some (vL x24), none, g15, g16], [], σ23) else (239, [some (vR 111), some (vL l1), none, some (vI l3), some (vL l4), none, some (vL l6), none, some (vI l8), some (vI l9), some (vI l10), some (vI x18), some (vI x19), some (vL x24), none, g15, g16], [], σ23))) rfl ?_
        refine run_ite hf (fun _ hf => ?_) (fun _ hf => ?_)
        · refine run_seg (k := 3) (s' := (if l3 = (-1) then (268, [some (vR 111), some (vL l1), none, some (vI l3), some (vL l4), none, some (vL l6), none, some (vI l8), some (vI l9), some (vI l10), some (vI x18), some (vI x19), some (vL x24), none, g15, g16], [], σ23) else (247, [some (vR 111), some (vL l1), none, some (vI l3), some (vL l4), none, some (vL l6), none, some (vI l8), some (vI l9), some (vI l10), some (vI x18), some (vI x19), some (vL x24), none, g15, g16], [], σ23))) rfl ?_
          refine run_ite hf (fun _ hf => ?_) (fun _ hf => ?_)
          · exact r_M_best_268 (hk69) (hk90) hf
          · refine run_seg (k := 11) (s' := (if xlc (w64 ((σ23 134 3) * l6)) (w64 (l4 * x24)) < 0 then (268, [some (vR 111), some (vL l1), none, some (vI l3), some (vL l4), none, some (vL l6), none, some (vI l8), some (vI l9), some (vI l10), some (vI x18), some (vI x19), some (vL x24), none, g15, g16], [], σ23) else (265, [some (vR 111), some (vL l1), none, some (vI l3), some (vL l4), none, some (vL l6), none, some (vI l8), some (vI l9), some (vI l10), some (vI x18), some (vI x19), some (vL x24), none, g15, g16], [], σ23))) rfl ?_
            refine run_ite hf (fun _ hf => ?_) (fun _ hf => ?_)
            · exact r_M_best_268 (hk69) (hk90) hf
            · refine run_seg (k := 2) (s' := (352, [some (vR 111), some (vL l1), none, some (vI l3), some (vL l4), none, some (vL l6), none, some (vI l8), some (vI l9), some (vI (w32 (l10 + 1))), some (vI x18), some (vI x19), some (vL x24), none, g15, g16], [], σ23)) rfl ?_
              refine run_let (fun x26 => (352, [some (vR 111), some (vL l1), none, some (vI l3), some (vL l4), none, some (vL l6), none, some (vI l8), some (vI l9), some (vI x26), some (vI x18), some (vI x19), some (vL x24), none, g15, g16], [], σ23)) hf (fun x26 hf => ?_)
              refine run_seg (k := 1) (s' := (90, [some (vR 111), some (vL l1), none, some (vI l3), some (vL l4), none, some (vL l6), none, some (vI l8), some (vI l9), some (vI x26), some (vI x18), some (vI x19), some (vL x24), none, g15, g16], [], σ23)) rfl ?_
              exact hk90 hf
        · refine run_seg (k := 2) (s' := (352, [some (vR 111), some (vL l1), none, some (vI l3), some (vL l4), none, some (vL l6), none, some (vI l8), some (vI l9), some (vI (w32 (l10 + 1))), some (vI x18), some (vI x19), some (vL x24), none, g15, g16], [], σ23)) rfl ?_
          refine run_let (fun x27 => (352, [some (vR 111), some (vL l1), none, some (vI l3), some (vL l4), none, some (vL l6), none, some (vI l8), some (vI l9), some (vI x27), some (vI x18), some (vI x19), some (vL x24), none, g15, g16], [], σ23)) hf (fun x27 hf => ?_)
          refine run_seg (k := 1) (s' := (90, [some (vR 111), some (vL l1), none, some (vI l3), some (vL l4), none, some (vL l6), none, some (vI l8), some (vI l9), some (vI x27), some (vI x18), some (vI x19), some (vL x24), none, g15, g16], [], σ23)) rfl ?_
          exact hk90 hf
theorem r_M_best_90 {k69 : (Int → Int → Int → Int → Int → xSt → Option (Int × xSt))} (hk69 : ∀ {l1 : Int} {l3 : Int} {l4 : Int} {l6 : Int} {l8 : Int} {g9 : Option xV} {g10 : Option xV} {g11 : Option xV} {g12 : Option xV} {g13 : Option xV} {g14 : Option xV} {g15 : Option xV} {g16 : Option xV} {σ : xSt} {r : Int × xSt}, k69 l1 l3 l4 l6 l8 σ = some r → Run 3 12 1 kX12_best (69, [some (vR 111), some (vL l1), none, some (vI l3), some (vL l4), none, some (vL l6), none, some (vI l8), g9, g10, g11, g12, g13, g14, g15, g16], [], σ) (tIW r)) : ∀ (n : Nat) {l1 : Int} {l3 : Int} {l4 : Int} {l6 : Int} {l8 : Int} {l9 : Int} {l10 : Int} {g11 : Option xV} {g12 : Option xV} {g13 : Option xV} {g14 : Option xV} {g15 : Option xV} {g16 : Option xV} {σ : xSt} {r : Int × xSt}, f_M_best_90 k69 n l1 l3 l4 l6 l8 l9 l10 σ = some r → Run 3 12 1 kX12_best (90, [some (vR 111), some (vL l1), none, some (vI l3), some (vL l4), none, some (vL l6), none, some (vI l8), some (vI l9), some (vI l10), g11, g12, g13, g14, g15, g16], [], σ) (tIW r) := by
  intro n
  induction n with
  | zero =>
    intro _ _ _ _ _ _ _ _ _ _ _ _ _ _ _ h
    exact nomatch (show (none : Option (Int × xSt)) = some _ from h)
  | succ n ih =>
    intro l1 l3 l4 l6 l8 l9 l10 g11 g12 g13 g14 g15 g16 σ r hf
    unfold f_M_best_90 at hf
    refine run_seg (k := 15) (s' := (if l10 < w32 ((w32 (3 + (w32 (9 * (σ 111 57))))) * (w32 (3 + (w32 (9 * (σ 111 57)))))) then (114, [some (vR 111), some (vL l1), none, some (vI l3), some (vL l4), none, some (vL l6), none, some (vI l8), some (vI l9), some (vI l10), g11, g12, g13, g14, g15, g16], [], σ) else (355, [some (vR 111), some (vL l1), none, some (vI l3), some (vL l4), none, some (vL l6), none, some (vI l8), some (vI l9), some (vI l10), g11, g12, g13, g14, g15, g16], [], σ))) rfl ?_
    refine run_ite hf (fun _ hf => ?_) (fun _ hf => ?_)
    · refine run_seg (k := 2) (s' := (117, [some (vR 111), some (vL l1), none, some (vI l3), some (vL l4), none, some (vL l6), none, some (vI l8), some (vI l9), some (vI l10), some (vI 0), g12, g13, g14, g15, g16], [], σ)) rfl ?_
      exact r_M_best_117 (hk69) (fun h => ih h) 1000000 hf
    · refine run_seg (k := 1) (s' := (358, [some (vR 111), some (vL l1), none, some (vI l3), some (vL l4), none, some (vL l6), none, some (vI (w32 (l8 + 1))), some (vI l9), some (vI l10), g11, g12, g13, g14, g15, g16], [], σ)) rfl ?_
      refine run_let (fun x13 => (358, [some (vR 111), some (vL l1), none, some (vI l3), some (vL l4), none, some (vL l6), none, some (vI x13), some (vI l9), some (vI l10), g11, g12, g13, g14, g15, g16], [], σ)) hf (fun x13 hf => ?_)
      refine run_seg (k := 1) (s' := (69, [some (vR 111), some (vL l1), none, some (vI l3), some (vL l4), none, some (vL l6), none, some (vI x13), some (vI l9), some (vI l10), g11, g12, g13, g14, g15, g16], [], σ)) rfl ?_
      exact hk69 hf
theorem r_M_best_398 : ∀ (n : Nat) {l3 : Int} {l8 : Int} {g1 : Option xV} {g2 : Option xV} {g4 : Option xV} {g5 : Option xV} {g6 : Option xV} {g7 : Option xV} {g9 : Option xV} {g10 : Option xV} {g11 : Option xV} {g12 : Option xV} {g13 : Option xV} {g14 : Option xV} {g15 : Option xV} {g16 : Option xV} {σ : xSt} {r : Int × xSt}, f_M_best_398 n l3 l8 σ = some r → Run 3 12 1 kX12_best (398, [some (vR 111), g1, g2, some (vI l3), g4, g5, g6, g7, some (vI l8), g9, g10, g11, g12, g13, g14, g15, g16], [], σ) (tIW r) := by
  intro n
  induction n with
  | zero =>
    intro _ _ _ _ _ _ _ _ _ _ _ _ _ _ _ _ _ _ h
    exact nomatch (show (none : Option (Int × xSt)) = some _ from h)
  | succ n ih =>
    intro l3 l8 g1 g2 g4 g5 g6 g7 g9 g10 g11 g12 g13 g14 g15 g16 σ r hf
    unfold f_M_best_398 at hf
    refine run_seg (k := 3) (s' := (if l8 < 3 then (404, [some (vR 111), g1, g2, some (vI l3), g4, g5, g6, g7, some (vI l8), g9, g10, g11, g12, g13, g14, g15, g16], [], σ) else (424, [some (vR 111), g1, g2, some (vI l3), g4, g5, g6, g7, some (vI l8), g9, g10, g11, g12, g13, g14, g15, g16], [], σ))) rfl ?_
    refine run_ite hf (fun _ hf => ?_) (fun _ hf => ?_)
    · refine run_seg (k := 6) (s' := (416, [some (vR 111), g1, g2, some (vI l3), g4, g5, g6, g7, some (vI l8), g9, g10, g11, g12, g13, g14, g15, g16], [vI l8, vR 132, vI l8, vR 135], σ)) rfl ?_
      refine run_guard (s' := (417, [some (vR 111), g1, g2, some (vI l3), g4, g5, g6, g7, some (vI l8), g9, g10, g11, g12, g13, g14, g15, g16], [vI (σ 132 l8.toNat), vI l8, vR 135], σ)) hf rfl (fun hf => ?_)
      refine run_guard (s' := (418, [some (vR 111), g1, g2, some (vI l3), g4, g5, g6, g7, some (vI l8), g9, g10, g11, g12, g13, g14, g15, g16], [], upS σ 135 l8.toNat (σ 132 l8.toNat))) hf rfl (fun hf => ?_)
      refine run_let (fun σ14 => (418, [some (vR 111), g1, g2, some (vI l3), g4, g5, g6, g7, some (vI l8), g9, g10, g11, g12, g13, g14, g15, g16], [], σ14)) hf (fun σ14 hf => ?_)
      refine run_seg (k := 1) (s' := (421, [some (vR 111), g1, g2, some (vI l3), g4, g5, g6, g7, some (vI (w32 (l8 + 1))), g9, g10, g11, g12, g13, g14, g15, g16], [], σ14)) rfl ?_
      refine run_let (fun x15 => (421, [some (vR 111), g1, g2, some (vI l3), g4, g5, g6, g7, some (vI x15), g9, g10, g11, g12, g13, g14, g15, g16], [], σ14)) hf (fun x15 hf => ?_)
      refine run_seg (k := 1) (s' := (398, [some (vR 111), g1, g2, some (vI l3), g4, g5, g6, g7, some (vI x15), g9, g10, g11, g12, g13, g14, g15, g16], [], σ14)) rfl ?_
      exact ih hf
    · refine run_seg (k := 1) (s' := (425, [some (vR 111), g1, g2, some (vI l3), g4, g5, g6, g7, some (vI l8), g9, g10, g11, g12, g13, g14, g15, g16], [vI l3], σ)) rfl ?_
      exact run_ret hf rfl
theorem r_M_best_69 : ∀ (n : Nat) {l1 : Int} {l3 : Int} {l4 : Int} {l6 : Int} {l8 : Int} {g9 : Option xV} {g10 : Option xV} {g11 : Option xV} {g12 : Option xV} {g13 : Option xV} {g14 : Option xV} {g15 : Option xV} {g16 : Option xV} {σ : xSt} {r : Int × xSt}, f_M_best_69 n l1 l3 l4 l6 l8 σ = some r → Run 3 12 1 kX12_best (69, [some (vR 111), some (vL l1), none, some (vI l3), some (vL l4), none, some (vL l6), none, some (vI l8), g9, g10, g11, g12, g13, g14, g15, g16], [], σ) (tIW r) := by
  intro n
  induction n with
  | zero =>
    intro _ _ _ _ _ _ _ _ _ _ _ _ _ _ _ h
    exact nomatch (show (none : Option (Int × xSt)) = some _ from h)
  | succ n ih =>
    intro l1 l3 l4 l6 l8 g9 g10 g11 g12 g13 g14 g15 g16 σ r hf
    unfold f_M_best_69 at hf
    refine run_seg (k := 4) (s' := (if l8 < σ 111 57 then (78, [some (vR 111), some (vL l1), none, some (vI l3), some (vL l4), none, some (vL l6), none, some (vI l8), g9, g10, g11, g12, g13, g14, g15, g16], [], σ) else (361, [some (vR 111), some (vL l1), none, some (vI l3), some (vL l4), none, some (vL l6), none, some (vI l8), g9, g10, g11, g12, g13, g14, g15, g16], [], σ))) rfl ?_
    refine run_ite hf (fun _ hf => ?_) (fun _ hf => ?_)
    · refine run_seg (k := 3) (s' := (84, [some (vR 111), some (vL l1), none, some (vI l3), some (vL l4), none, some (vL l6), none, some (vI l8), g9, g10, g11, g12, g13, g14, g15, g16], [vI l8, vR 132], σ)) rfl ?_
      refine run_guard (s' := (85, [some (vR 111), some (vL l1), none, some (vI l3), some (vL l4), none, some (vL l6), none, some (vI l8), g9, g10, g11, g12, g13, g14, g15, g16], [vI (σ 132 l8.toNat)], σ)) hf rfl (fun hf => ?_)
      refine run_seg (k := 1) (s' := (87, [some (vR 111), some (vL l1), none, some (vI l3), some (vL l4), none, some (vL l6), none, some (vI l8), some (vI (σ 132 l8.toNat)), g10, g11, g12, g13, g14, g15, g16], [], σ)) rfl ?_
      refine run_let (fun x8 => (87, [some (vR 111), some (vL l1), none, some (vI l3), some (vL l4), none, some (vL l6), none, some (vI l8), some (vI x8), g10, g11, g12, g13, g14, g15, g16], [], σ)) hf (fun x8 hf => ?_)
      refine run_seg (k := 2) (s' := (90, [some (vR 111), some (vL l1), none, some (vI l3), some (vL l4), none, some (vL l6), none, some (vI l8), some (vI x8), some (vI 0), g11, g12, g13, g14, g15, g16], [], σ)) rfl ?_
      exact r_M_best_90 (fun h => ih h) 1000000 hf
    · refine run_seg (k := 3) (s' := (if l3 = (-1) then (366, [some (vR 111), some (vL l1), none, some (vI l3), some (vL l4), none, some (vL l6), none, some (vI l8), g9, g10, g11, g12, g13, g14, g15, g16], [], σ) else (368, [some (vR 111), some (vL l1), none, some (vI l3), some (vL l4), none, some (vL l6), none, some (vI l8), g9, g10, g11, g12, g13, g14, g15, g16], [], σ))) rfl ?_
      refine run_ite hf (fun _ hf => ?_) (fun _ hf => ?_)
      · refine run_seg (k := 1) (s' := (367, [some (vR 111), some (vL l1), none, some (vI l3), some (vL l4), none, some (vL l6), none, some (vI l8), g9, g10, g11, g12, g13, g14, g15, g16], [vI (-1)], σ)) rfl ?_
        exact run_ret hf rfl
      · refine run_seg (k := 3) (s' := (373, [some (vR 111), some (vL l1), none, some (vI l3), some (vL l4), none, some (vL l6), none, some (vI l8), g9, g10, g11, g12, g13, g14, g15, g16], [], upS σ 111 58 l3)) rfl ?_
        refine run_let (fun σ9 => (373, [some (vR 111), some (vL l1), none, some (vI l3), some (vL l4), none, some (vL l6), none, some (vI l8), g9, g10, g11, g12, g13, g14, g15, g16], [], σ9)) hf (fun σ9 hf => ?_)
        refine run_seg (k := 6) (s' := (383, [some (vR 111), some (vL l1), none, some (vI l3), some (vL l4), none, some (vL l6), none, some (vI l8), g9, g10, g11, g12, g13, g14, g15, g16], [], upS σ9 111 59 (σ9 113 3))) rfl ?_
        refine run_let (fun σ10 => (383, [some (vR 111), some (vL l1), none, some (vI l3), some (vL l4), none, some (vL l6), none, some (vI l8), g9, g10, g11, g12, g13, g14, g15, g16], [], σ10)) hf (fun σ10 hf => ?_)
        refine run_seg (k := 3) (s' := (389, [some (vR 111), some (vL l1), none, some (vI l3), some (vL l4), none, some (vL l6), none, some (vI l8), g9, g10, g11, g12, g13, g14, g15, g16], [], upS σ10 111 60 l4)) rfl ?_
        refine run_let (fun σ11 => (389, [some (vR 111), some (vL l1), none, some (vI l3), some (vL l4), none, some (vL l6), none, some (vI l8), g9, g10, g11, g12, g13, g14, g15, g16], [], σ11)) hf (fun σ11 hf => ?_)
        refine run_seg (k := 3) (s' := (395, [some (vR 111), some (vL l1), none, some (vI l3), some (vL l4), none, some (vL l6), none, some (vI l8), g9, g10, g11, g12, g13, g14, g15, g16], [], upS σ11 111 61 l6)) rfl ?_
        refine run_let (fun σ12 => (395, [some (vR 111), some (vL l1), none, some (vI l3), some (vL l4), none, some (vL l6), none, some (vI l8), g9, g10, g11, g12, g13, g14, g15, g16], [], σ12)) hf (fun σ12 hf => ?_)
        refine run_seg (k := 2) (s' := (398, [some (vR 111), some (vL l1), none, some (vI l3), some (vL l4), none, some (vL l6), none, some (vI 0), g9, g10, g11, g12, g13, g14, g15, g16], [], σ12)) rfl ?_
        exact r_M_best_398 1000000 hf
theorem r_M_best_27 : ∀ (n : Nat) {l1 : Int} {l3 : Int} {g4 : Option xV} {g5 : Option xV} {g6 : Option xV} {g7 : Option xV} {g8 : Option xV} {g9 : Option xV} {g10 : Option xV} {g11 : Option xV} {g12 : Option xV} {g13 : Option xV} {g14 : Option xV} {g15 : Option xV} {g16 : Option xV} {σ : xSt} {r : Int × xSt}, f_M_best_27 n l1 l3 σ = some r → Run 3 12 1 kX12_best (27, [some (vR 111), some (vL l1), none, some (vI l3), g4, g5, g6, g7, g8, g9, g10, g11, g12, g13, g14, g15, g16], [], σ) (tIW r) := by
  intro n
  induction n with
  | zero =>
    intro _ _ _ _ _ _ _ _ _ _ _ _ _ _ _ _ _ h
    exact nomatch (show (none : Option (Int × xSt)) = some _ from h)
  | succ n ih =>
    intro l1 l3 g4 g5 g6 g7 g8 g9 g10 g11 g12 g13 g14 g15 g16 σ r hf
    unfold f_M_best_27 at hf
    refine run_seg (k := 4) (s' := (if l3 < σ 111 57 then (35, [some (vR 111), some (vL l1), none, some (vI l3), g4, g5, g6, g7, g8, g9, g10, g11, g12, g13, g14, g15, g16], [], σ) else (58, [some (vR 111), some (vL l1), none, some (vI l3), g4, g5, g6, g7, g8, g9, g10, g11, g12, g13, g14, g15, g16], [], σ))) rfl ?_
    refine run_ite hf (fun _ hf => ?_) (fun _ hf => ?_)
    · refine run_seg (k := 6) (s' := (45, [some (vR 111), some (vL l1), none, some (vI l3), g4, g5, g6, g7, g8, g9, g10, g11, g12, g13, g14, g15, g16], [vI l3, vR 132, vR 113, vL l1], σ)) rfl ?_
      refine run_guard (s' := (46, [some (vR 111), some (vL l1), none, some (vI l3), g4, g5, g6, g7, g8, g9, g10, g11, g12, g13, g14, g15, g16], [vI (σ 132 l3.toNat), vR 113, vL l1], σ)) hf rfl (fun hf => ?_)
      refine run_callN (w := fun a => some (vI a)) (m := 235) (as := [vR 113, vI (σ 132 l3.toNat)]) (pc := 49) (ls := [some (vR 111), some (vL l1), none, some (vI l3), g4, g5, g6, g7, g8, g9, g10, g11, g12, g13, g14, g15, g16]) (st' := [vL l1]) (σ := σ) hf rfl (fun _ h => (c_M_partsOf h).mono (by decide)) (fun r5 hf => ?_)
      refine run_seg (k := 3) (s' := (52, [some (vR 111), some (vL (w64 (l1 * r5))), none, some (vI l3), g4, g5, g6, g7, g8, g9, g10, g11, g12, g13, g14, g15, g16], [], σ)) rfl ?_
      refine run_let (fun x6 => (52, [some (vR 111), some (vL x6), none, some (vI l3), g4, g5, g6, g7, g8, g9, g10, g11, g12, g13, g14, g15, g16], [], σ)) hf (fun x6 hf => ?_)
      refine run_seg (k := 1) (s' := (55, [some (vR 111), some (vL x6), none, some (vI (w32 (l3 + 1))), g4, g5, g6, g7, g8, g9, g10, g11, g12, g13, g14, g15, g16], [], σ)) rfl ?_
      refine run_let (fun x7 => (55, [some (vR 111), some (vL x6), none, some (vI x7), g4, g5, g6, g7, g8, g9, g10, g11, g12, g13, g14, g15, g16], [], σ)) hf (fun x7 hf => ?_)
      refine run_seg (k := 1) (s' := (27, [some (vR 111), some (vL x6), none, some (vI x7), g4, g5, g6, g7, g8, g9, g10, g11, g12, g13, g14, g15, g16], [], σ)) rfl ?_
      exact ih hf
    · refine run_seg (k := 8) (s' := (69, [some (vR 111), some (vL l1), none, some (vI (-1)), some (vL 0), none, some (vL 1), none, some (vI 0), g9, g10, g11, g12, g13, g14, g15, g16], [], σ)) rfl ?_
      exact r_M_best_69 1000000 hf
theorem c_M_best {σ : xSt} {r : Int × xSt} (hf : f_M_best σ = some r) : Call (3 + 1) 323 [vR 111] σ (tIW r).1 (tIW r).2 := by
  unfold f_M_best at hf
  refine call_of (own := 12) (rk := 1) (cd := kX12_best) (ls := [some (vR 111), none, none, none, none, none, none, none, none, none, none, none, none, none, none, none, none]) (rT := tIW) rfl rfl rfl rfl rfl ?_
  refine run_seg (k := 3) (s' := (5, [some (vR 111), none, none, none, none, none, none, none, none, none, none, none, none, none, none, none, none], [], upS σ 111 0 0)) rfl ?_
  refine run_let (fun σ1 => (5, [some (vR 111), none, none, none, none, none, none, none, none, none, none, none, none, none, none, none, none], [], σ1)) hf (fun σ1 hf => ?_)
  refine run_seg (k := 1) (s' := (6, [some (vR 111), none, none, none, none, none, none, none, none, none, none, none, none, none, none, none, none], [vR 111], σ1)) rfl ?_
  refine run_callV (m := 233) (as := [vR 111]) (pc := 9) (ls := [some (vR 111), none, none, none, none, none, none, none, none, none, none, none, none, none, none, none, none]) (st' := []) (σ := σ1) hf rfl (fun _ h => (c_M_lay h).mono (by decide)) (fun σ2 hf => ?_)
  refine run_seg (k := 1) (s' := (10, [some (vR 111), none, none, none, none, none, none, none, none, none, none, none, none, none, none, none, none], [vR 111], σ2)) rfl ?_
  refine run_callN (w := fun a => some (vI a)) (m := 246) (as := [vR 111]) (pc := 13) (ls := [some (vR 111), none, none, none, none, none, none, none, none, none, none, none, none, none, none, none, none]) (st' := []) (σ := σ2) hf rfl (fun _ h => (c_M_ends h).mono (by decide)) (fun r3 hf => ?_)
  refine run_seg (k := 2) (s' := (if r3 < 2 then (17, [some (vR 111), none, none, none, none, none, none, none, none, none, none, none, none, none, none, none, none], [], σ2) else (19, [some (vR 111), none, none, none, none, none, none, none, none, none, none, none, none, none, none, none, none], [], σ2))) rfl ?_
  refine run_ite hf (fun _ hf => ?_) (fun _ hf => ?_)
  · refine run_seg (k := 1) (s' := (18, [some (vR 111), none, none, none, none, none, none, none, none, none, none, none, none, none, none, none, none], [vI (-1)], σ2)) rfl ?_
    exact run_ret hf rfl
  · refine run_seg (k := 1) (s' := (20, [some (vR 111), none, none, none, none, none, none, none, none, none, none, none, none, none, none, none, none], [vR 111], σ2)) rfl ?_
    refine run_callV (m := 320) (as := [vR 111]) (pc := 23) (ls := [some (vR 111), none, none, none, none, none, none, none, none, none, none, none, none, none, none, none, none]) (st' := []) (σ := σ2) hf rfl (fun _ h => (c_M_layCoins h).mono (by decide)) (fun σ4 hf => ?_)
    refine run_seg (k := 4) (s' := (27, [some (vR 111), some (vL 1), none, some (vI 0), none, none, none, none, none, none, none, none, none, none, none, none, none], [], σ4)) rfl ?_
    exact r_M_best_27 1000000 hf
def f_M_bestMean_17 (σ : xSt) : Option (Int × xSt) :=
  xbW (f_M_refuseLong σ) fun r3 σ4 =>
  some (r3, σ4)
/-- BentPennyModel.bestMean(I)J -/
def f_M_bestMean (p1 : Int) (σ : xSt) : Option (Int × xSt) :=
  if σ 111 58 = (-1) then (f_M_bestMean_17 σ)
  else (xbR (f_M_isIn p1 0 1 σ) fun r1 =>
  if r1 = 0 then (f_M_bestMean_17 σ)
  else (xlet (upS σ 111 0 0) fun σ2 =>
  if p1 = 0 then (some (σ2 111 60, σ2))
  else (some (σ2 111 61, σ2))))
theorem r_M_bestMean_17 {g1 : Option xV} {σ : xSt} {r : Int × xSt} (hf : f_M_bestMean_17 σ = some r) : Run 1 12 3 kX12_bestMean (17, [some (vR 111), g1], [], σ) (tLW r) := by
  unfold f_M_bestMean_17 at hf
  refine run_seg (k := 1) (s' := (18, [some (vR 111), g1], [vR 111], σ)) rfl ?_
  refine run_callW (w := fun a => some (vL a)) (m := 211) (as := [vR 111]) (pc := 21) (ls := [some (vR 111), g1]) (st' := []) (σ := σ) hf rfl (fun _ _ h => (c_M_refuseLong h).mono (by decide)) (fun r3 σ4 hf => ?_)
  exact run_ret hf rfl
theorem c_M_bestMean {p1 : Int} {σ : xSt} {r : Int × xSt} (hf : f_M_bestMean p1 σ = some r) : Call (1 + 1) 324 [vR 111, vI p1] σ (tLW r).1 (tLW r).2 := by
  unfold f_M_bestMean at hf
  refine call_of (own := 12) (rk := 3) (cd := kX12_bestMean) (ls := [some (vR 111), some (vI p1)]) (rT := tLW) rfl rfl rfl rfl rfl ?_
  refine run_seg (k := 4) (s' := (if σ 111 58 = (-1) then (17, [some (vR 111), some (vI p1)], [], σ) else (8, [some (vR 111), some (vI p1)], [], σ))) rfl ?_
  refine run_ite hf (fun _ hf => ?_) (fun _ hf => ?_)
  · exact r_M_bestMean_17 hf
  · refine run_seg (k := 3) (s' := (11, [some (vR 111), some (vI p1)], [vI 1, vI 0, vI p1], σ)) rfl ?_
    refine run_callN (w := fun a => some (vI a)) (m := 216) (as := [vI p1, vI 0, vI 1]) (pc := 14) (ls := [some (vR 111), some (vI p1)]) (st' := []) (σ := σ) hf rfl (fun _ h => (c_M_isIn h).mono (by decide)) (fun r1 hf => ?_)
    refine run_seg (k := 1) (s' := (if r1 = 0 then (17, [some (vR 111), some (vI p1)], [], σ) else (22, [some (vR 111), some (vI p1)], [], σ))) rfl ?_
    refine run_ite hf (fun _ hf => ?_) (fun _ hf => ?_)
    · exact r_M_bestMean_17 hf
    · refine run_seg (k := 3) (s' := (27, [some (vR 111), some (vI p1)], [], upS σ 111 0 0)) rfl ?_
      refine run_let (fun σ2 => (27, [some (vR 111), some (vI p1)], [], σ2)) hf (fun σ2 hf => ?_)
      refine run_seg (k := 2) (s' := (if p1 = 0 then (31, [some (vR 111), some (vI p1)], [], σ2) else (38, [some (vR 111), some (vI p1)], [], σ2))) rfl ?_
      refine run_ite hf (fun _ hf => ?_) (fun _ hf => ?_)
      · refine run_seg (k := 3) (s' := (42, [some (vR 111), some (vI p1)], [vL (σ2 111 60)], σ2)) rfl ?_
        exact run_ret hf rfl
      · refine run_seg (k := 2) (s' := (42, [some (vR 111), some (vI p1)], [vL (σ2 111 61)], σ2)) rfl ?_
        exact run_ret hf rfl
/-- BentPennyModel.laySide(I)I -/
def f0_M_laySide (q_M_laySide : (Int → xSt → Option (Int × xSt))) (p1 : Int) (σ : xSt) : Option (Int × xSt) :=
  if p1 < 2 then (xbW (f_M_lays 0 p1 σ) fun r1 σ2 =>
  some (r1, σ2))
  else (if p1 = 2 then (xbW (f_M_lays 1 (-1) σ) fun r3 σ4 =>
  some (r3, σ4))
  else (if 0 ≤ xdiv (w32 (p1 - 3)) 9 ∧ xdiv (w32 (p1 - 3)) 9 < 3 then (
  xbW (f_M_lays 2 (σ 135 (xdiv (w32 (p1 - 3)) 9).toNat) σ) fun r5 σ6 =>
  xlet (xrem (w32 (p1 - 3)) 9) fun x7 =>
  xbW (q_M_laySide (xdiv x7 3) σ6) fun r8 σ9 =>
  if 0 ≤ w32 ((w32 (8 * r5)) + 2) ∧ w32 ((w32 (8 * r5)) + 2) < 640 then (
  xlet (upS σ9 115 (w32 ((w32 (8 * r5)) + 2)).toNat r8) fun σ10 =>
  xbW (q_M_laySide (xrem x7 3) σ10) fun r11 σ12 =>
  if 0 ≤ w32 ((w32 (8 * r5)) + 3) ∧ w32 ((w32 (8 * r5)) + 3) < 640 then (
  xlet (upS σ12 115 (w32 ((w32 (8 * r5)) + 3)).toNat r11) fun σ13 =>
  some (r5, σ13)) else none) else none) else none))
theorem c0_M_laySide {d : Nat} (hd : 1 ≤ d) {q_M_laySide : (Int → xSt → Option (Int × xSt))} (hq_M_laySide : ∀ {p1 : Int} {σ : xSt} {r : Int × xSt}, q_M_laySide p1 σ = some r → Call d 325 [vR 111, vI p1] σ (tIW r).1 (tIW r).2) {p1 : Int} {σ : xSt} {r : Int × xSt} (hf : f0_M_laySide q_M_laySide p1 σ = some r) : Call (d + 1) 325 [vR 111, vI p1] σ (tIW r).1 (tIW r).2 := by
  unfold f0_M_laySide at hf
  refine call_of (own := 12) (rk := 1) (cd := kX12_laySide) (ls := [some (vR 111), some (vI p1), none, none]) (rT := tIW) rfl rfl rfl rfl rfl ?_
  refine run_seg (k := 3) (s' := (if p1 < 2 then (5, [some (vR 111), some (vI p1), none, none], [], σ) else (12, [some (vR 111), some (vI p1), none, none], [], σ))) rfl ?_
  refine run_ite hf (fun _ hf => ?_) (fun _ hf => ?_)
  · refine run_seg (k := 3) (s' := (8, [some (vR 111), some (vI p1), none, none], [vI p1, vI 0, vR 111], σ)) rfl ?_
    refine run_callW (w := fun a => some (vI a)) (m := 252) (as := [vR 111, vI 0, vI p1]) (pc := 11) (ls := [some (vR 111), some (vI p1), none, none]) (st' := []) (σ := σ) hf rfl (fun _ _ h => (c_M_lays h).mono (Nat.le_trans (by decide) hd)) (fun r1 σ2 hf => ?_)
    exact run_ret hf rfl
  · refine run_seg (k := 3) (s' := (if p1 = 2 then (17, [some (vR 111), some (vI p1), none, none], [], σ) else (24, [some (vR 111), some (vI p1), none, none], [], σ))) rfl ?_
    refine run_ite hf (fun _ hf => ?_) (fun _ hf => ?_)
    · refine run_seg (k := 3) (s' := (20, [some (vR 111), some (vI p1), none, none], [vI (-1), vI 1, vR 111], σ)) rfl ?_
      refine run_callW (w := fun a => some (vI a)) (m := 252) (as := [vR 111, vI 1, vI (-1)]) (pc := 23) (ls := [some (vR 111), some (vI p1), none, none]) (st' := []) (σ := σ) hf rfl (fun _ _ h => (c_M_lays h).mono (Nat.le_trans (by decide) hd)) (fun r3 σ4 hf => ?_)
      exact run_ret hf rfl
    · refine run_seg (k := 9) (s' := (36, [some (vR 111), some (vI p1), none, none], [vI (xdiv (w32 (p1 - 3)) 9), vR 135, vI 2, vR 111], σ)) rfl ?_
      refine run_guard (s' := (37, [some (vR 111), some (vI p1), none, none], [vI (σ 135 (xdiv (w32 (p1 - 3)) 9).toNat), vI 2, vR 111], σ)) hf rfl (fun hf => ?_)
      refine run_callW (w := fun a => some (vI a)) (m := 252) (as := [vR 111, vI 2, vI (σ 135 (xdiv (w32 (p1 - 3)) 9).toNat)]) (pc := 40) (ls := [some (vR 111), some (vI p1), none, none]) (st' := []) (σ := σ) hf rfl (fun _ _ h => (c_M_lays h).mono (Nat.le_trans (by decide) hd)) (fun r5 σ6 hf => ?_)
      refine run_seg (k := 7) (s' := (48, [some (vR 111), some (vI p1), some (vI r5), some (vI (xrem (w32 (p1 - 3)) 9))], [], σ6)) rfl ?_
      refine run_let (fun x7 => (48, [some (vR 111), some (vI p1), some (vI r5), some (vI x7)], [], σ6)) hf (fun x7 hf => ?_)
      refine run_seg (k := 11) (s' := (62, [some (vR 111), some (vI p1), some (vI r5), some (vI x7)], [vI (xdiv x7 3), vR 111, vI (w32 ((w32 (8 * r5)) + 2)), vR 115], σ6)) rfl ?_
      refine run_callW (w := fun a => some (vI a)) (m := 325) (as := [vR 111, vI (xdiv x7 3)]) (pc := 65) (ls := [some (vR 111), some (vI p1), some (vI r5), some (vI x7)]) (st' := [vI (w32 ((w32 (8 * r5)) + 2)), vR 115]) (σ := σ6) hf rfl (fun _ _ h => (hq_M_laySide h)) (fun r8 σ9 hf => ?_)
      refine run_guard (s' := (66, [some (vR 111), some (vI p1), some (vI r5), some (vI x7)], [], upS σ9 115 (w32 ((w32 (8 * r5)) + 2)).toNat r8)) hf rfl (fun hf => ?_)
      refine run_let (fun σ10 => (66, [some (vR 111), some (vI p1), some (vI r5), some (vI x7)], [], σ10)) hf (fun σ10 hf => ?_)
      refine run_seg (k := 11) (s' := (80, [some (vR 111), some (vI p1), some (vI r5), some (vI x7)], [vI (xrem x7 3), vR 111, vI (w32 ((w32 (8 * r5)) + 3)), vR 115], σ10)) rfl ?_
      refine run_callW (w := fun a => some (vI a)) (m := 325) (as := [vR 111, vI (xrem x7 3)]) (pc := 83) (ls := [some (vR 111), some (vI p1), some (vI r5), some (vI x7)]) (st' := [vI (w32 ((w32 (8 * r5)) + 3)), vR 115]) (σ := σ10) hf rfl (fun _ _ h => (hq_M_laySide h)) (fun r11 σ12 hf => ?_)
      refine run_guard (s' := (84, [some (vR 111), some (vI p1), some (vI r5), some (vI x7)], [], upS σ12 115 (w32 ((w32 (8 * r5)) + 3)).toNat r11)) hf rfl (fun hf => ?_)
      refine run_let (fun σ13 => (84, [some (vR 111), some (vI p1), some (vI r5), some (vI x7)], [], σ13)) hf (fun σ13 hf => ?_)
      refine run_seg (k := 1) (s' := (85, [some (vR 111), some (vI p1), some (vI r5), some (vI x7)], [vI r5], σ13)) rfl ?_
      exact run_ret hf rfl
def g_M_laySide : Nat → (Int → xSt → Option (Int × xSt))
  | 0 => ((fun _ _ => none))
  | n + 1 => ((fun p1 σ => f0_M_laySide (g_M_laySide n) p1 σ))
def f_M_laySide (n : Nat) (p1 : Int) (σ : xSt) : Option (Int × xSt) := g_M_laySide n p1 σ
theorem hg_M_laySide : ∀ n, (∀ {p1 : Int} {σ : xSt} {r : Int × xSt}, f_M_laySide n p1 σ = some r → Call (1 + n) 325 [vR 111, vI p1] σ (tIW r).1 (tIW r).2) := by
  intro n
  induction n with
  | zero => exact fun h => nomatch (show (none : Option (Int × xSt)) = some _ from h)
  | succ n ih => exact fun h => c0_M_laySide (Nat.le_add_right 1 n) (fun h => ih h) h
theorem c_M_laySide {p1 : Int} {σ : xSt} {r : Int × xSt} (hf : f_M_laySide 60 p1 σ = some r) : Call 61 325 [vR 111, vI p1] σ (tIW r).1 (tIW r).2 := (hg_M_laySide 60) hf
def f_M_take_83 : Nat → Int → xSt → Option (Int × xSt)
  | 0, _, _ => none
  | n + 1, l1, σ =>
    if l1 < w32 (8 * (σ 111 25)) then (if 0 ≤ l1 ∧ l1 < 640 then (
    if 0 ≤ w32 (42 + l1) ∧ w32 (42 + l1) < 924 then (
    xlet (upS σ 113 (w32 (42 + l1)).toNat (σ 115 l1.toNat)) fun σ12 =>
    xlet (w32 (l1 + 1)) fun x13 =>
    f_M_take_83 n x13 σ12) else none) else none)
    else (xlet (upS σ 113 41 (σ 111 25)) fun σ14 =>
    some (1, σ14))
/-- BentPennyModel.take()Z -/
def f_M_take (σ : xSt) : Option (Int × xSt) :=
  xlet (upS σ 111 0 0) fun σ1 =>
  xbR (f_M_lay σ1) fun σ2 =>
  if σ2 111 58 = (-1) then (some (0, σ2))
  else (if σ2 111 59 = σ2 113 3 then (xlet (upS σ2 111 25 0) fun σ3 =>
  xbW (f_M_lays 2 (σ3 133 0) σ3) fun r4 σ5 =>
  xbW (f_M_laySide 60 (σ5 133 1) σ5) fun r6 σ7 =>
  xlet (upS σ7 115 2 r6) fun σ8 =>
  xbW (f_M_laySide 60 (σ8 133 2) σ8) fun r9 σ10 =>
  xlet (upS σ10 115 3 r9) fun σ11 =>
  f_M_take_83 1000000 0 σ11)
  else (some (0, σ2)))
theorem r_M_take_83 : ∀ (n : Nat) {l1 : Int} {σ : xSt} {r : Int × xSt}, f_M_take_83 n l1 σ = some r → Run 61 12 2 kX12_take (83, [some (vR 111), some (vI l1)], [], σ) (tIW r) := by
  intro n
  induction n with
  | zero =>
    intro _ _ _ h
    exact nomatch (show (none : Option (Int × xSt)) = some _ from h)
  | succ n ih =>
    intro l1 σ r hf
    unfold f_M_take_83 at hf
    refine run_seg (k := 6) (s' := (if l1 < w32 (8 * (σ 111 25)) then (94, [some (vR 111), some (vI l1)], [], σ) else (115, [some (vR 111), some (vI l1)], [], σ))) rfl ?_
    refine run_ite hf (fun _ hf => ?_) (fun _ hf => ?_)
    · refine run_seg (k := 8) (s' := (107, [some (vR 111), some (vI l1)], [vI l1, vR 115, vI (w32 (42 + l1)), vR 113], σ)) rfl ?_
      refine run_guard (s' := (108, [some (vR 111), some (vI l1)], [vI (σ 115 l1.toNat), vI (w32 (42 + l1)), vR 113], σ)) hf rfl (fun hf => ?_)
      refine run_guard (s' := (109, [some (vR 111), some (vI l1)], [], upS σ 113 (w32 (42 + l1)).toNat (σ 115 l1.toNat))) hf rfl (fun hf => ?_)
      refine run_let (fun σ12 => (109, [some (vR 111), some (vI l1)], [], σ12)) hf (fun σ12 hf => ?_)
      refine run_seg (k := 1) (s' := (112, [some (vR 111), some (vI (w32 (l1 + 1)))], [], σ12)) rfl ?_
      refine run_let (fun x13 => (112, [some (vR 111), some (vI x13)], [], σ12)) hf (fun x13 hf => ?_)
      refine run_seg (k := 1) (s' := (83, [some (vR 111), some (vI x13)], [], σ12)) rfl ?_
      exact ih hf
    · refine run_seg (k := 6) (s' := (126, [some (vR 111), some (vI l1)], [], upS σ 113 41 (σ 111 25))) rfl ?_
      refine run_let (fun σ14 => (126, [some (vR 111), some (vI l1)], [], σ14)) hf (fun σ14 hf => ?_)
      refine run_seg (k := 1) (s' := (127, [some (vR 111), some (vI l1)], [vI 1], σ14)) rfl ?_
      exact run_ret hf rfl
theorem c_M_take {σ : xSt} {r : Int × xSt} (hf : f_M_take σ = some r) : Call (61 + 1) 326 [vR 111] σ (tIW r).1 (tIW r).2 := by
  unfold f_M_take at hf
  refine call_of (own := 12) (rk := 2) (cd := kX12_take) (ls := [some (vR 111), none]) (rT := tIW) rfl rfl rfl rfl rfl ?_
  refine run_seg (k := 3) (s' := (5, [some (vR 111), none], [], upS σ 111 0 0)) rfl ?_
  refine run_let (fun σ1 => (5, [some (vR 111), none], [], σ1)) hf (fun σ1 hf => ?_)
  refine run_seg (k := 1) (s' := (6, [some (vR 111), none], [vR 111], σ1)) rfl ?_
  refine run_callV (m := 233) (as := [vR 111]) (pc := 9) (ls := [some (vR 111), none]) (st' := []) (σ := σ1) hf rfl (fun _ h => (c_M_lay h).mono (by decide)) (fun σ2 hf => ?_)
  refine run_seg (k := 4) (s' := (if σ2 111 58 = (-1) then (30, [some (vR 111), none], [], σ2) else (17, [some (vR 111), none], [], σ2))) rfl ?_
  refine run_ite hf (fun _ hf => ?_) (fun _ hf => ?_)
  · refine run_seg (k := 1) (s' := (31, [some (vR 111), none], [vI 0], σ2)) rfl ?_
    exact run_ret hf rfl
  · refine run_seg (k := 7) (s' := (if σ2 111 59 = σ2 113 3 then (32, [some (vR 111), none], [], σ2) else (30, [some (vR 111), none], [], σ2))) rfl ?_
    refine run_ite hf (fun _ hf => ?_) (fun _ hf => ?_)
    · refine run_seg (k := 3) (s' := (37, [some (vR 111), none], [], upS σ2 111 25 0)) rfl ?_
      refine run_let (fun σ3 => (37, [some (vR 111), none], [], σ3)) hf (fun σ3 hf => ?_)
      refine run_seg (k := 6) (s' := (45, [some (vR 111), none], [vI (σ3 133 0), vI 2, vR 111], σ3)) rfl ?_
      refine run_callW (w := fun a => some (vI a)) (m := 252) (as := [vR 111, vI 2, vI (σ3 133 0)]) (pc := 48) (ls := [some (vR 111), none]) (st' := []) (σ := σ3) hf rfl (fun _ _ h => (c_M_lays h).mono (by decide)) (fun r4 σ5 hf => ?_)
      refine run_seg (k := 9) (s' := (61, [some (vR 111), none], [vI (σ5 133 1), vR 111, vI 2, vR 115], σ5)) rfl ?_
      refine run_callW (w := fun a => some (vI a)) (m := 325) (as := [vR 111, vI (σ5 133 1)]) (pc := 64) (ls := [some (vR 111), none]) (st' := [vI 2, vR 115]) (σ := σ5) hf rfl (fun _ _ h => (c_M_laySide h).mono (by decide)) (fun r6 σ7 hf => ?_)
      refine run_seg (k := 1) (s' := (65, [some (vR 111), none], [], upS σ7 115 2 r6)) rfl ?_
      refine run_let (fun σ8 => (65, [some (vR 111), none], [], σ8)) hf (fun σ8 hf => ?_)
      refine run_seg (k := 8) (s' := (77, [some (vR 111), none], [vI (σ8 133 2), vR 111, vI 3, vR 115], σ8)) rfl ?_
      refine run_callW (w := fun a => some (vI a)) (m := 325) (as := [vR 111, vI (σ8 133 2)]) (pc := 80) (ls := [some (vR 111), none]) (st' := [vI 3, vR 115]) (σ := σ8) hf rfl (fun _ _ h => (c_M_laySide h).mono (by decide)) (fun r9 σ10 hf => ?_)
      refine run_seg (k := 1) (s' := (81, [some (vR 111), none], [], upS σ10 115 3 r9)) rfl ?_
      refine run_let (fun σ11 => (81, [some (vR 111), none], [], σ11)) hf (fun σ11 hf => ?_)
      refine run_seg (k := 2) (s' := (83, [some (vR 111), some (vI 0)], [], σ11)) rfl ?_
      exact r_M_take_83 1000000 hf
    · refine run_seg (k := 1) (s' := (31, [some (vR 111), none], [vI 0], σ2)) rfl ?_
      exact run_ret hf rfl
/-- BentPennyModel.put(I)V -/
def f_M_put (p1 : Int) (σ : xSt) : Option (xSt) :=
  if 0 ≤ σ 111 66 ∧ σ 111 66 < 1000 then (
  xlet (upS σ 136 (σ 111 66).toNat p1) fun σ1 =>
  xlet (upS σ1 111 66 (w32 ((σ1 111 66) + 1))) fun σ2 =>
  some σ2) else none
theorem c_M_put {p1 : Int} {σ : xSt} {r : xSt} (hf : f_M_put p1 σ = some r) : Call (0 + 1) 327 [vR 111, vI p1] σ (tV r).1 (tV r).2 := by
  unfold f_M_put at hf
  refine call_of (own := 12) (rk := 0) (cd := kX12_put) (ls := [some (vR 111), some (vI p1)]) (rT := tV) rfl rfl rfl rfl rfl ?_
  refine run_seg (k := 5) (s' := (9, [some (vR 111), some (vI p1)], [vI p1, vI (σ 111 66), vR 136], σ)) rfl ?_
  refine run_guard (s' := (10, [some (vR 111), some (vI p1)], [], upS σ 136 (σ 111 66).toNat p1)) hf rfl (fun hf => ?_)
  refine run_let (fun σ1 => (10, [some (vR 111), some (vI p1)], [], σ1)) hf (fun σ1 hf => ?_)
  refine run_seg (k := 6) (s' := (20, [some (vR 111), some (vI p1)], [], upS σ1 111 66 (w32 ((σ1 111 66) + 1)))) rfl ?_
  refine run_let (fun σ2 => (20, [some (vR 111), some (vI p1)], [], σ2)) hf (fun σ2 hf => ?_)
  exact run_ret hf rfl
def f_M_putName_47 : Nat → Int → xSt → Option (xSt)
  | 0, _, _ => none
  | n + 1, l4, σ =>
    if l4 < 0 then (some σ)
    else (if 0 ≤ l4 ∧ l4 < 6 then (
    xbR (f_M_put (σ 137 l4.toNat) σ) fun σ5 =>
    xlet (w32 (l4 + (-1))) fun x6 =>
    f_M_putName_47 n x6 σ5) else none)
def f_M_putName_5 : Nat → Int → Int → xSt → Option (xSt)
  | 0, _, _, _ => none
  | n + 1, l3, l4, σ =>
    if 0 < xlc l4 0 then (if 0 ≤ l3 ∧ l3 < 6 then (
    xlet (upS σ 137 l3.toNat (w32 ((w32 (xlrem l4 27)) + 96))) fun σ1 =>
    xlet (w32 (l3 + 1)) fun x2 =>
    xlet (xldiv l4 27) fun x3 =>
    f_M_putName_5 n x2 x3 σ1) else none)
    else (xlet (w32 (l3 - 1)) fun x4 =>
    f_M_putName_47 1000000 x4 σ)
/-- BentPennyModel.putName(J)V -/
def f_M_putName (p1 : Int) (σ : xSt) : Option (xSt) :=
  f_M_putName_5 1000000 0 p1 σ
theorem r_M_putName_47 : ∀ (n : Nat) {l4 : Int} {g1 : Option xV} {g2 : Option xV} {g3 : Option xV} {g5 : Option xV} {σ : xSt} {r : xSt}, f_M_putName_47 n l4 σ = some r → Run 1 12 0 kX12_putName (47, [some (vR 111), g1, g2, g3, some (vI l4), g5], [], σ) (tV r) := by
  intro n
  induction n with
  | zero =>
    intro _ _ _ _ _ _ _ h
    exact nomatch (show (none : Option (xSt)) = some _ from h)
  | succ n ih =>
    intro l4 g1 g2 g3 g5 σ r hf
    unfold f_M_putName_47 at hf
    refine run_seg (k := 2) (s' := (if l4 < 0 then (69, [some (vR 111), g1, g2, g3, some (vI l4), g5], [], σ) else (52, [some (vR 111), g1, g2, g3, some (vI l4), g5], [], σ))) rfl ?_
    refine run_ite hf (fun _ hf => ?_) (fun _ hf => ?_)
    · exact run_ret hf rfl
    · refine run_seg (k := 4) (s' := (59, [some (vR 111), g1, g2, g3, some (vI l4), g5], [vI l4, vR 137, vR 111], σ)) rfl ?_
      refine run_guard (s' := (60, [some (vR 111), g1, g2, g3, some (vI l4), g5], [vI (σ 137 l4.toNat), vR 111], σ)) hf rfl (fun hf => ?_)
      refine run_callV (m := 327) (as := [vR 111, vI (σ 137 l4.toNat)]) (pc := 63) (ls := [some (vR 111), g1, g2, g3, some (vI l4), g5]) (st' := []) (σ := σ) hf rfl (fun _ h => (c_M_put h).mono (by decide)) (fun σ5 hf => ?_)
      refine run_seg (k := 1) (s' := (66, [some (vR 111), g1, g2, g3, some (vI (w32 (l4 + (-1)))), g5], [], σ5)) rfl ?_
      refine run_let (fun x6 => (66, [some (vR 111), g1, g2, g3, some (vI x6), g5], [], σ5)) hf (fun x6 hf => ?_)
      refine run_seg (k := 1) (s' := (47, [some (vR 111), g1, g2, g3, some (vI x6), g5], [], σ5)) rfl ?_
      exact ih hf
theorem r_M_putName_5 : ∀ (n : Nat) {l3 : Int} {l4 : Int} {g1 : Option xV} {g2 : Option xV} {σ : xSt} {r : xSt}, f_M_putName_5 n l3 l4 σ = some r → Run 1 12 0 kX12_putName (5, [some (vR 111), g1, g2, some (vI l3), some (vL l4), none], [], σ) (tV r) := by
  intro n
  induction n with
  | zero =>
    intro _ _ _ _ _ _ h
    exact nomatch (show (none : Option (xSt)) = some _ from h)
  | succ n ih =>
    intro l3 l4 g1 g2 σ r hf
    unfold f_M_putName_5 at hf
    refine run_seg (k := 4) (s' := (if 0 < xlc l4 0 then (12, [some (vR 111), g1, g2, some (vI l3), some (vL l4), none], [], σ) else (42, [some (vR 111), g1, g2, some (vI l3), some (vL l4), none], [], σ))) rfl ?_
    refine run_ite hf (fun _ hf => ?_) (fun _ hf => ?_)
    · refine run_seg (k := 9) (s' := (27, [some (vR 111), g1, g2, some (vI l3), some (vL l4), none], [vI (w32 ((w32 (xlrem l4 27)) + 96)), vI l3, vR 137], σ)) rfl ?_
      refine run_guard (s' := (28, [some (vR 111), g1, g2, some (vI l3), some (vL l4), none], [], upS σ 137 l3.toNat (w32 ((w32 (xlrem l4 27)) + 96)))) hf rfl (fun hf => ?_)
      refine run_let (fun σ1 => (28, [some (vR 111), g1, g2, some (vI l3), some (vL l4), none], [], σ1)) hf (fun σ1 hf => ?_)
      refine run_seg (k := 1) (s' := (31, [some (vR 111), g1, g2, some (vI (w32 (l3 + 1))), some (vL l4), none], [], σ1)) rfl ?_
      refine run_let (fun x2 => (31, [some (vR 111), g1, g2, some (vI x2), some (vL l4), none], [], σ1)) hf (fun x2 hf => ?_)
      refine run_seg (k := 4) (s' := (39, [some (vR 111), g1, g2, some (vI x2), some (vL (xldiv l4 27)), none], [], σ1)) rfl ?_
      refine run_let (fun x3 => (39, [some (vR 111), g1, g2, some (vI x2), some (vL x3), none], [], σ1)) hf (fun x3 hf => ?_)
      refine run_seg (k := 1) (s' := (5, [some (vR 111), g1, g2, some (vI x2), some (vL x3), none], [], σ1)) rfl ?_
      exact ih hf
    · refine run_seg (k := 4) (s' := (47, [some (vR 111), g1, g2, some (vI l3), some (vI (w32 (l3 - 1))), none], [], σ)) rfl ?_
      refine run_let (fun x4 => (47, [some (vR 111), g1, g2, some (vI l3), some (vI x4), none], [], σ)) hf (fun x4 hf => ?_)
      exact r_M_putName_47 1000000 hf
theorem c_M_putName {p1 : Int} {σ : xSt} {r : xSt} (hf : f_M_putName p1 σ = some r) : Call (1 + 1) 328 [vR 111, vL p1] σ (tV r).1 (tV r).2 := by
  unfold f_M_putName at hf
  refine call_of (own := 12) (rk := 0) (cd := kX12_putName) (ls := [some (vR 111), some (vL p1), none, none, none, none]) (rT := tV) rfl rfl rfl rfl rfl ?_
  refine run_seg (k := 4) (s' := (5, [some (vR 111), some (vL p1), none, some (vI 0), some (vL p1), none], [], σ)) rfl ?_
  exact r_M_putName_5 1000000 hf
def f_M_putNode_93 (q_M_putNode : (Int → xSt → Option (xSt))) (k67 : (Int → Int → xSt → Option (xSt))) (l1 : Int) (l2 : Int) (σ : xSt) : Option (xSt) :=
  xbR (f_M_nextOf l1 l2 σ) fun r14 =>
  xbR (q_M_putNode r14 σ) fun σ15 =>
  xlet (w32 (l2 + 1)) fun x16 =>
  k67 l1 x16 σ15
def f_M_putNode_67 (q_M_putNode : (Int → xSt → Option (xSt))) : Nat → Int → Int → xSt → Option (xSt)
  | 0, _, _, _ => none
  | n + 1, l1, l2, σ =>
    xbR (f_M_whichOf l1 σ) fun r10 =>
    xbR (f_M_sidesOf r10 σ) fun r11 =>
    if l2 < r11 then (if 0 < l2 then (xbR (f_M_put 58 σ) fun σ12 =>
    f_M_putNode_93 q_M_putNode (fun z0 z1 sz => f_M_putNode_67 q_M_putNode n z0 z1 sz) l1 l2 σ12)
    else (f_M_putNode_93 q_M_putNode (fun z0 z1 sz => f_M_putNode_67 q_M_putNode n z0 z1 sz) l1 l2 σ))
    else (xbR (f_M_put 41 σ) fun σ13 =>
    some σ13)
def f_M_putNode_46 (q_M_putNode : (Int → xSt → Option (xSt))) (l1 : Int) (s0 : Int) (σ : xSt) : Option (xSt) :=
  if 0 ≤ s0 ∧ s0 < 9 then (
  xbR (f_M_putName (σ 117 s0.toNat) σ) fun σ7 =>
  xbR (f_M_sortOf l1 σ7) fun r8 =>
  if r8 = 0 then (some σ7)
  else (xbR (f_M_put 40 σ7) fun σ9 =>
  f_M_putNode_67 q_M_putNode 1000000 l1 0 σ9)) else none
/-- BentPennyModel.putNode(I)V -/
def f0_M_putNode (q_M_putNode : (Int → xSt → Option (xSt))) (p1 : Int) (σ : xSt) : Option (xSt) :=
  xbR (f_M_sortOf p1 σ) fun r1 =>
  if r1 = 1 then (xbR (f_M_wordOf 4 σ) fun r2 =>
  xbR (f_M_putName r2 σ) fun σ3 =>
  some σ3)
  else (xbR (f_M_sortOf p1 σ) fun r4 =>
  if r4 = 0 then (xbR (f_M_whichOf p1 σ) fun r5 =>
  f_M_putNode_46 q_M_putNode p1 (w32 (3 + r5)) σ)
  else (xbR (f_M_whichOf p1 σ) fun r6 =>
  f_M_putNode_46 q_M_putNode p1 r6 σ))
theorem r_M_putNode_93 {d : Nat} (hd : 2 ≤ d) {q_M_putNode : (Int → xSt → Option (xSt))} (hq_M_putNode : ∀ {p1 : Int} {σ : xSt} {r : xSt}, q_M_putNode p1 σ = some r → Call d 329 [vR 111, vI p1] σ (tV r).1 (tV r).2) {k67 : (Int → Int → xSt → Option (xSt))} (hk67 : ∀ {l1 : Int} {l2 : Int} {σ : xSt} {r : xSt}, k67 l1 l2 σ = some r → Run d 12 0 kX12_putNode (67, [some (vR 111), some (vI l1), some (vI l2)], [], σ) (tV r)) {l1 : Int} {l2 : Int} {σ : xSt} {r : xSt} (hf : f_M_putNode_93 q_M_putNode k67 l1 l2 σ = some r) : Run d 12 0 kX12_putNode (93, [some (vR 111), some (vI l1), some (vI l2)], [], σ) (tV r) := by
  unfold f_M_putNode_93 at hf
  refine run_seg (k := 4) (s' := (97, [some (vR 111), some (vI l1), some (vI l2)], [vI l2, vI l1, vR 111, vR 111], σ)) rfl ?_
  refine run_callN (w := fun a => some (vI a)) (m := 259) (as := [vR 111, vI l1, vI l2]) (pc := 100) (ls := [some (vR 111), some (vI l1), some (vI l2)]) (st' := [vR 111]) (σ := σ) hf rfl (fun _ h => (c_M_nextOf h).mono (Nat.le_trans (by decide) hd)) (fun r14 hf => ?_)
  refine run_callV (m := 329) (as := [vR 111, vI r14]) (pc := 103) (ls := [some (vR 111), some (vI l1), some (vI l2)]) (st' := []) (σ := σ) hf rfl (fun _ h => (hq_M_putNode h)) (fun σ15 hf => ?_)
  refine run_seg (k := 1) (s' := (106, [some (vR 111), some (vI l1), some (vI (w32 (l2 + 1)))], [], σ15)) rfl ?_
  refine run_let (fun x16 => (106, [some (vR 111), some (vI l1), some (vI x16)], [], σ15)) hf (fun x16 hf => ?_)
  refine run_seg (k := 1) (s' := (67, [some (vR 111), some (vI l1), some (vI x16)], [], σ15)) rfl ?_
  exact hk67 hf
theorem r_M_putNode_67 {d : Nat} (hd : 2 ≤ d) {q_M_putNode : (Int → xSt → Option (xSt))} (hq_M_putNode : ∀ {p1 : Int} {σ : xSt} {r : xSt}, q_M_putNode p1 σ = some r → Call d 329 [vR 111, vI p1] σ (tV r).1 (tV r).2) : ∀ (n : Nat) {l1 : Int} {l2 : Int} {σ : xSt} {r : xSt}, f_M_putNode_67 q_M_putNode n l1 l2 σ = some r → Run d 12 0 kX12_putNode (67, [some (vR 111), some (vI l1), some (vI l2)], [], σ) (tV r) := by
  intro n
  induction n with
  | zero =>
    intro _ _ _ _ h
    exact nomatch (show (none : Option (xSt)) = some _ from h)
  | succ n ih =>
    intro l1 l2 σ r hf
    unfold f_M_putNode_67 at hf
    refine run_seg (k := 5) (s' := (74, [some (vR 111), some (vI l1), some (vI l2)], [vI l1, vR 111, vR 113, vI l2], σ)) rfl ?_
    refine run_callN (w := fun a => some (vI a)) (m := 258) (as := [vR 111, vI l1]) (pc := 77) (ls := [some (vR 111), some (vI l1), some (vI l2)]) (st' := [vR 113, vI l2]) (σ := σ) hf rfl (fun _ h => (c_M_whichOf h).mono (Nat.le_trans (by decide) hd)) (fun r10 hf => ?_)
    refine run_callN (w := fun a => some (vI a)) (m := 234) (as := [vR 113, vI r10]) (pc := 80) (ls := [some (vR 111), some (vI l1), some (vI l2)]) (st' := [vI l2]) (σ := σ) hf rfl (fun _ h => (c_M_sidesOf h).mono (Nat.le_trans (by decide) hd)) (fun r11 hf => ?_)
    refine run_seg (k := 1) (s' := (if l2 < r11 then (83, [some (vR 111), some (vI l1), some (vI l2)], [], σ) else (109, [some (vR 111), some (vI l1), some (vI l2)], [], σ))) rfl ?_
    refine run_ite hf (fun _ hf => ?_) (fun _ hf => ?_)
    · refine run_seg (k := 2) (s' := (if 0 < l2 then (87, [some (vR 111), some (vI l1), some (vI l2)], [], σ) else (93, [some (vR 111), some (vI l1), some (vI l2)], [], σ))) rfl ?_
      refine run_ite hf (fun _ hf => ?_) (fun _ hf => ?_)
      · refine run_seg (k := 2) (s' := (90, [some (vR 111), some (vI l1), some (vI l2)], [vI 58, vR 111], σ)) rfl ?_
        refine run_callV (m := 327) (as := [vR 111, vI 58]) (pc := 93) (ls := [some (vR 111), some (vI l1), some (vI l2)]) (st' := []) (σ := σ) hf rfl (fun _ h => (c_M_put h).mono (Nat.le_trans (by decide) hd)) (fun σ12 hf => ?_)
        exact r_M_putNode_93 hd hq_M_putNode (fun h => ih h) hf
      · exact r_M_putNode_93 hd hq_M_putNode (fun h => ih h) hf
    · refine run_seg (k := 2) (s' := (112, [some (vR 111), some (vI l1), some (vI l2)], [vI 41, vR 111], σ)) rfl ?_
      refine run_callV (m := 327) (as := [vR 111, vI 41]) (pc := 115) (ls := [some (vR 111), some (vI l1), some (vI l2)]) (st' := []) (σ := σ) hf rfl (fun _ h => (c_M_put h).mono (Nat.le_trans (by decide) hd)) (fun σ13 hf => ?_)
      exact run_ret hf rfl
theorem r_M_putNode_46 {d : Nat} (hd : 2 ≤ d) {q_M_putNode : (Int → xSt → Option (xSt))} (hq_M_putNode : ∀ {p1 : Int} {σ : xSt} {r : xSt}, q_M_putNode p1 σ = some r → Call d 329 [vR 111, vI p1] σ (tV r).1 (tV r).2) {l1 : Int} {s0 : Int} {g2 : Option xV} {σ : xSt} {r : xSt} (hf : f_M_putNode_46 q_M_putNode l1 s0 σ = some r) : Run d 12 0 kX12_putNode (46, [some (vR 111), some (vI l1), g2], [vI s0, vR 117, vR 111], σ) (tV r) := by
  unfold f_M_putNode_46 at hf
  refine run_guard (s' := (47, [some (vR 111), some (vI l1), g2], [vL (σ 117 s0.toNat), vR 111], σ)) hf rfl (fun hf => ?_)
  refine run_callV (m := 328) (as := [vR 111, vL (σ 117 s0.toNat)]) (pc := 50) (ls := [some (vR 111), some (vI l1), g2]) (st' := []) (σ := σ) hf rfl (fun _ h => (c_M_putName h).mono (Nat.le_trans (by decide) hd)) (fun σ7 hf => ?_)
  refine run_seg (k := 2) (s' := (52, [some (vR 111), some (vI l1), g2], [vI l1, vR 111], σ7)) rfl ?_
  refine run_callN (w := fun a => some (vI a)) (m := 257) (as := [vR 111, vI l1]) (pc := 55) (ls := [some (vR 111), some (vI l1), g2]) (st' := []) (σ := σ7) hf rfl (fun _ h => (c_M_sortOf h).mono (Nat.le_trans (by decide) hd)) (fun r8 hf => ?_)
  refine run_seg (k := 1) (s' := (if r8 = 0 then (58, [some (vR 111), some (vI l1), g2], [], σ7) else (59, [some (vR 111), some (vI l1), g2], [], σ7))) rfl ?_
  refine run_ite hf (fun _ hf => ?_) (fun _ hf => ?_)
  · exact run_ret hf rfl
  · refine run_seg (k := 2) (s' := (62, [some (vR 111), some (vI l1), g2], [vI 40, vR 111], σ7)) rfl ?_
    refine run_callV (m := 327) (as := [vR 111, vI 40]) (pc := 65) (ls := [some (vR 111), some (vI l1), g2]) (st' := []) (σ := σ7) hf rfl (fun _ h => (c_M_put h).mono (Nat.le_trans (by decide) hd)) (fun σ9 hf => ?_)
    refine run_seg (k := 2) (s' := (67, [some (vR 111), some (vI l1), some (vI 0)], [], σ9)) rfl ?_
    exact r_M_putNode_67 hd hq_M_putNode 1000000 hf
theorem c0_M_putNode {d : Nat} (hd : 2 ≤ d) {q_M_putNode : (Int → xSt → Option (xSt))} (hq_M_putNode : ∀ {p1 : Int} {σ : xSt} {r : xSt}, q_M_putNode p1 σ = some r → Call d 329 [vR 111, vI p1] σ (tV r).1 (tV r).2) {p1 : Int} {σ : xSt} {r : xSt} (hf : f0_M_putNode q_M_putNode p1 σ = some r) : Call (d + 1) 329 [vR 111, vI p1] σ (tV r).1 (tV r).2 := by
  unfold f0_M_putNode at hf
  refine call_of (own := 12) (rk := 0) (cd := kX12_putNode) (ls := [some (vR 111), some (vI p1), none]) (rT := tV) rfl rfl rfl rfl rfl ?_
  refine run_seg (k := 2) (s' := (2, [some (vR 111), some (vI p1), none], [vI p1, vR 111], σ)) rfl ?_
  refine run_callN (w := fun a => some (vI a)) (m := 257) (as := [vR 111, vI p1]) (pc := 5) (ls := [some (vR 111), some (vI p1), none]) (st' := []) (σ := σ) hf rfl (fun _ h => (c_M_sortOf h).mono (Nat.le_trans (by decide) hd)) (fun r1 hf => ?_)
  refine run_seg (k := 2) (s' := (if r1 = 1 then (9, [some (vR 111), some (vI p1), none], [], σ) else (18, [some (vR 111), some (vI p1), none], [], σ))) rfl ?_
  refine run_ite hf (fun _ hf => ?_) (fun _ hf => ?_)
  · refine run_seg (k := 2) (s' := (11, [some (vR 111), some (vI p1), none], [vI 4, vR 111], σ)) rfl ?_
    refine run_callN (w := fun a => some (vL a)) (m := 225) (as := [vI 4]) (pc := 14) (ls := [some (vR 111), some (vI p1), none]) (st' := [vR 111]) (σ := σ) hf rfl (fun _ h => (c_M_wordOf h).mono (Nat.le_trans (by decide) hd)) (fun r2 hf => ?_)
    refine run_callV (m := 328) (as := [vR 111, vL r2]) (pc := 17) (ls := [some (vR 111), some (vI p1), none]) (st' := []) (σ := σ) hf rfl (fun _ h => (c_M_putName h).mono (Nat.le_trans (by decide) hd)) (fun σ3 hf => ?_)
    exact run_ret hf rfl
  · refine run_seg (k := 5) (s' := (25, [some (vR 111), some (vI p1), none], [vI p1, vR 111, vR 117, vR 111], σ)) rfl ?_
    refine run_callN (w := fun a => some (vI a)) (m := 257) (as := [vR 111, vI p1]) (pc := 28) (ls := [some (vR 111), some (vI p1), none]) (st' := [vR 117, vR 111]) (σ := σ) hf rfl (fun _ h => (c_M_sortOf h).mono (Nat.le_trans (by decide) hd)) (fun r4 hf => ?_)
    refine run_seg (k := 1) (s' := (if r4 = 0 then (31, [some (vR 111), some (vI p1), none], [vR 117, vR 111], σ) else (41, [some (vR 111), some (vI p1), none], [vR 117, vR 111], σ))) rfl ?_
    refine run_ite hf (fun _ hf => ?_) (fun _ hf => ?_)
    · refine run_seg (k := 3) (s' := (34, [some (vR 111), some (vI p1), none], [vI p1, vR 111, vI 3, vR 117, vR 111], σ)) rfl ?_
      refine run_callN (w := fun a => some (vI a)) (m := 258) (as := [vR 111, vI p1]) (pc := 37) (ls := [some (vR 111), some (vI p1), none]) (st' := [vI 3, vR 117, vR 111]) (σ := σ) hf rfl (fun _ h => (c_M_whichOf h).mono (Nat.le_trans (by decide) hd)) (fun r5 hf => ?_)
      refine run_seg (k := 2) (s' := (46, [some (vR 111), some (vI p1), none], [vI (w32 (3 + r5)), vR 117, vR 111], σ)) rfl ?_
      exact r_M_putNode_46 hd hq_M_putNode hf
    · refine run_seg (k := 2) (s' := (43, [some (vR 111), some (vI p1), none], [vI p1, vR 111, vR 117, vR 111], σ)) rfl ?_
      refine run_callN (w := fun a => some (vI a)) (m := 258) (as := [vR 111, vI p1]) (pc := 46) (ls := [some (vR 111), some (vI p1), none]) (st' := [vR 117, vR 111]) (σ := σ) hf rfl (fun _ h => (c_M_whichOf h).mono (Nat.le_trans (by decide) hd)) (fun r6 hf => ?_)
      exact r_M_putNode_46 hd hq_M_putNode hf
def g_M_putNode : Nat → (Int → xSt → Option (xSt))
  | 0 => ((fun _ _ => none))
  | n + 1 => ((fun p1 σ => f0_M_putNode (g_M_putNode n) p1 σ))
def f_M_putNode (n : Nat) (p1 : Int) (σ : xSt) : Option (xSt) := g_M_putNode n p1 σ
theorem hg_M_putNode : ∀ n, (∀ {p1 : Int} {σ : xSt} {r : xSt}, f_M_putNode n p1 σ = some r → Call (2 + n) 329 [vR 111, vI p1] σ (tV r).1 (tV r).2) := by
  intro n
  induction n with
  | zero => exact fun h => nomatch (show (none : Option (xSt)) = some _ from h)
  | succ n ih => exact fun h => c0_M_putNode (Nat.le_add_right 2 n) (fun h => ih h) h
theorem c_M_putNode {p1 : Int} {σ : xSt} {r : xSt} (hf : f_M_putNode 60 p1 σ = some r) : Call 62 329 [vR 111, vI p1] σ (tV r).1 (tV r).2 := (hg_M_putNode 60) hf
/-- BentPennyModel.write()I -/
def f_M_write (σ : xSt) : Option (Int × xSt) :=
  xlet (upS σ 111 0 0) fun σ1 =>
  xbR (f_M_hasWay σ1) fun r2 =>
  if r2 = 0 then (some ((-1), σ1))
  else (xlet (upS σ1 111 66 0) fun σ3 =>
  xbR (f_M_putNode 60 0 σ3) fun σ4 =>
  some (σ4 111 66, σ4))
theorem c_M_write {σ : xSt} {r : Int × xSt} (hf : f_M_write σ = some r) : Call (62 + 1) 330 [vR 111] σ (tIW r).1 (tIW r).2 := by
  unfold f_M_write at hf
  refine call_of (own := 12) (rk := 1) (cd := kX12_write) (ls := [some (vR 111)]) (rT := tIW) rfl rfl rfl rfl rfl ?_
  refine run_seg (k := 3) (s' := (5, [some (vR 111)], [], upS σ 111 0 0)) rfl ?_
  refine run_let (fun σ1 => (5, [some (vR 111)], [], σ1)) hf (fun σ1 hf => ?_)
  refine run_seg (k := 1) (s' := (6, [some (vR 111)], [vR 111], σ1)) rfl ?_
  refine run_callN (w := fun a => some (vI a)) (m := 263) (as := [vR 111]) (pc := 9) (ls := [some (vR 111)]) (st' := []) (σ := σ1) hf rfl (fun _ h => (c_M_hasWay h).mono (by decide)) (fun r2 hf => ?_)
  refine run_seg (k := 1) (s' := (if r2 = 0 then (12, [some (vR 111)], [], σ1) else (14, [some (vR 111)], [], σ1))) rfl ?_
  refine run_ite hf (fun _ hf => ?_) (fun _ hf => ?_)
  · refine run_seg (k := 1) (s' := (13, [some (vR 111)], [vI (-1)], σ1)) rfl ?_
    exact run_ret hf rfl
  · refine run_seg (k := 3) (s' := (19, [some (vR 111)], [], upS σ1 111 66 0)) rfl ?_
    refine run_let (fun σ3 => (19, [some (vR 111)], [], σ3)) hf (fun σ3 hf => ?_)
    refine run_seg (k := 2) (s' := (21, [some (vR 111)], [vI 0, vR 111], σ3)) rfl ?_
    refine run_callV (m := 329) (as := [vR 111, vI 0]) (pc := 24) (ls := [some (vR 111)]) (st' := []) (σ := σ3) hf rfl (fun _ h => (c_M_putNode h).mono (by decide)) (fun σ4 hf => ?_)
    refine run_seg (k := 2) (s' := (28, [some (vR 111)], [vI (σ4 111 66)], σ4)) rfl ?_
    exact run_ret hf rfl
/-- BentPennyModel.byteAt(I)I -/
def f_M_byteAt (p1 : Int) (σ : xSt) : Option (Int × xSt) :=
  xlet (upS σ 111 0 0) fun σ1 =>
  if p1 < 0 then (some ((-1), σ1))
  else (if p1 < σ1 111 66 then (if 0 ≤ p1 ∧ p1 < 1000 then (
  some (σ1 136 p1.toNat, σ1)) else none)
  else (some ((-1), σ1)))
theorem c_M_byteAt {p1 : Int} {σ : xSt} {r : Int × xSt} (hf : f_M_byteAt p1 σ = some r) : Call (0 + 1) 331 [vR 111, vI p1] σ (tIW r).1 (tIW r).2 := by
  unfold f_M_byteAt at hf
  refine call_of (own := 12) (rk := 1) (cd := kX12_byteAt) (ls := [some (vR 111), some (vI p1)]) (rT := tIW) rfl rfl rfl rfl rfl ?_
  refine run_seg (k := 3) (s' := (5, [some (vR 111), some (vI p1)], [], upS σ 111 0 0)) rfl ?_
  refine run_let (fun σ1 => (5, [some (vR 111), some (vI p1)], [], σ1)) hf (fun σ1 hf => ?_)
  refine run_seg (k := 2) (s' := (if p1 < 0 then (26, [some (vR 111), some (vI p1)], [], σ1) else (9, [some (vR 111), some (vI p1)], [], σ1))) rfl ?_
  refine run_ite hf (fun _ hf => ?_) (fun _ hf => ?_)
  · refine run_seg (k := 1) (s' := (27, [some (vR 111), some (vI p1)], [vI (-1)], σ1)) rfl ?_
    exact run_ret hf rfl
  · refine run_seg (k := 4) (s' := (if p1 < σ1 111 66 then (17, [some (vR 111), some (vI p1)], [], σ1) else (26, [some (vR 111), some (vI p1)], [], σ1))) rfl ?_
    refine run_ite hf (fun _ hf => ?_) (fun _ hf => ?_)
    · refine run_seg (k := 3) (s' := (22, [some (vR 111), some (vI p1)], [vI p1, vR 136], σ1)) rfl ?_
      refine run_guard (s' := (23, [some (vR 111), some (vI p1)], [vI (σ1 136 p1.toNat)], σ1)) hf rfl (fun hf => ?_)
      refine run_seg (k := 1) (s' := (27, [some (vR 111), some (vI p1)], [vI (σ1 136 p1.toNat)], σ1)) rfl ?_
      exact run_ret hf rfl
    · refine run_seg (k := 1) (s' := (27, [some (vR 111), some (vI p1)], [vI (-1)], σ1)) rfl ?_
      exact run_ret hf rfl
/-- BentPennyModel.draw(I)I -/
def f_M_draw (p1 : Int) (σ : xSt) : Option (Int × xSt) :=
  xlet (upS σ 111 67 (w32 ((w32 ((σ 111 67) * 1103515245)) + 12345))) fun σ1 =>
  if p1 = 0 then none else
  some (xrem (xushr (σ1 111 67) 8) p1, σ1)
theorem c_M_draw {p1 : Int} {σ : xSt} {r : Int × xSt} (hf : f_M_draw p1 σ = some r) : Call (0 + 1) 332 [vR 111, vI p1] σ (tIW r).1 (tIW r).2 := by
  unfold f_M_draw at hf
  refine call_of (own := 12) (rk := 1) (cd := kX12_draw) (ls := [some (vR 111), some (vI p1)]) (rT := tIW) rfl rfl rfl rfl rfl ?_
  refine run_seg (k := 8) (s' := (16, [some (vR 111), some (vI p1)], [], upS σ 111 67 (w32 ((w32 ((σ 111 67) * 1103515245)) + 12345)))) rfl ?_
  refine run_let (fun σ1 => (16, [some (vR 111), some (vI p1)], [], σ1)) hf (fun σ1 hf => ?_)
  refine run_seg (k := 5) (s' := (24, [some (vR 111), some (vI p1)], [vI p1, vI (xushr (σ1 111 67) 8)], σ1)) rfl ?_
  refine run_gdiv (s' := (25, [some (vR 111), some (vI p1)], [vI (xrem (xushr (σ1 111 67) 8) p1)], σ1)) hf rfl (fun hf => ?_)
  exact run_ret hf rfl
def f_M_castBy_56 (k12 : (Int → Int → xSt → Option (Int × xSt))) : Nat → Int → Int → Int → Int → Int → xSt → Option (Int × xSt)
  | 0, _, _, _, _, _, _ => none
  | n + 1, l1, l3, l4, l5, l6, σ =>
    xbR (f_M_sideOf l4 l6 σ) fun r10 =>
    if l5 < r10 then (xlet (upS σ 111 68 (w32 ((σ 111 68) + 1))) fun σ11 =>
    xbR (f_M_nextOf l3 l6 σ11) fun r12 =>
    xbR (f_M_sortOf r12 σ11) fun r13 =>
    if r13 = 1 then (k12 l1 0 σ11)
    else (k12 l1 r12 σ11))
    else (xbR (f_M_sideOf l4 l6 σ) fun r14 =>
    xlet (w32 (l5 - r14)) fun x15 =>
    xlet (w32 (l6 + 1)) fun x16 =>
    f_M_castBy_56 k12 n l1 l3 l4 x15 x16 σ)
def f_M_castBy_12 : Nat → Int → Int → xSt → Option (Int × xSt)
  | 0, _, _, _ => none
  | n + 1, l1, l3, σ =>
    xbR (f_M_sortOf l3 σ) fun r3 =>
    if r3 = 2 then (if σ 111 68 = l1 then (some ((-1), σ))
    else (xbR (f_M_whichOf l3 σ) fun r4 =>
    xbR (f_M_partsOf r4 σ) fun r5 =>
    xbW (f_M_draw r5 σ) fun r6 σ7 =>
    f_M_castBy_56 (fun z0 z1 sz => f_M_castBy_12 n z0 z1 sz) 1000000 l1 l3 r4 r6 0 σ7))
    else (xbR (f_M_sortOf l3 σ) fun r8 =>
    if r8 = 0 then (xbR (f_M_whichOf l3 σ) fun r9 =>
    some (r9, σ))
    else (some ((-1), σ)))
/-- BentPennyModel.castBy(II)I -/
def f_M_castBy (p1 : Int) (p2 : Int) (σ : xSt) : Option (Int × xSt) :=
  xlet (upS σ 111 67 p2) fun σ1 =>
  xlet (upS σ1 111 68 0) fun σ2 =>
  f_M_castBy_12 1000000 p1 0 σ2
theorem r_M_castBy_56 {k12 : (Int → Int → xSt → Option (Int × xSt))} (hk12 : ∀ {l1 : Int} {l3 : Int} {g2 : Option xV} {g4 : Option xV} {g5 : Option xV} {g6 : Option xV} {σ : xSt} {r : Int × xSt}, k12 l1 l3 σ = some r → Run 1 12 1 kX12_castBy (12, [some (vR 111), some (vI l1), g2, some (vI l3), g4, g5, g6], [], σ) (tIW r)) : ∀ (n : Nat) {l1 : Int} {l3 : Int} {l4 : Int} {l5 : Int} {l6 : Int} {g2 : Option xV} {σ : xSt} {r : Int × xSt}, f_M_castBy_56 k12 n l1 l3 l4 l5 l6 σ = some r → Run 1 12 1 kX12_castBy (56, [some (vR 111), some (vI l1), g2, some (vI l3), some (vI l4), some (vI l5), some (vI l6)], [], σ) (tIW r) := by
  intro n
  induction n with
  | zero =>
    intro _ _ _ _ _ _ _ _ h
    exact nomatch (show (none : Option (Int × xSt)) = some _ from h)
  | succ n ih =>
    intro l1 l3 l4 l5 l6 g2 σ r hf
    unfold f_M_castBy_56 at hf
    refine run_seg (k := 5) (s' := (66, [some (vR 111), some (vI l1), g2, some (vI l3), some (vI l4), some (vI l5), some (vI l6)], [vI l6, vI l4, vR 113, vI l5], σ)) rfl ?_
    refine run_callN (w := fun a => some (vI a)) (m := 236) (as := [vR 113, vI l4, vI l6]) (pc := 69) (ls := [some (vR 111), some (vI l1), g2, some (vI l3), some (vI l4), some (vI l5), some (vI l6)]) (st' := [vI l5]) (σ := σ) hf rfl (fun _ h => (c_M_sideOf h).mono (by decide)) (fun r10 hf => ?_)
    refine run_seg (k := 1) (s' := (if l5 < r10 then (94, [some (vR 111), some (vI l1), g2, some (vI l3), some (vI l4), some (vI l5), some (vI l6)], [], σ) else (72, [some (vR 111), some (vI l1), g2, some (vI l3), some (vI l4), some (vI l5), some (vI l6)], [], σ))) rfl ?_
    refine run_ite hf (fun _ hf => ?_) (fun _ hf => ?_)
    · refine run_seg (k := 6) (s' := (104, [some (vR 111), some (vI l1), g2, some (vI l3), some (vI l4), some (vI l5), some (vI l6)], [], upS σ 111 68 (w32 ((σ 111 68) + 1)))) rfl ?_
      refine run_let (fun σ11 => (104, [some (vR 111), some (vI l1), g2, some (vI l3), some (vI l4), some (vI l5), some (vI l6)], [], σ11)) hf (fun σ11 hf => ?_)
      refine run_seg (k := 3) (s' := (108, [some (vR 111), some (vI l1), g2, some (vI l3), some (vI l4), some (vI l5), some (vI l6)], [vI l6, vI l3, vR 111], σ11)) rfl ?_
      refine run_callN (w := fun a => some (vI a)) (m := 259) (as := [vR 111, vI l3, vI l6]) (pc := 111) (ls := [some (vR 111), some (vI l1), g2, some (vI l3), some (vI l4), some (vI l5), some (vI l6)]) (st' := []) (σ := σ11) hf rfl (fun _ h => (c_M_nextOf h).mono (by decide)) (fun r12 hf => ?_)
      refine run_seg (k := 3) (s' := (114, [some (vR 111), some (vI l1), g2, some (vI r12), some (vI l4), some (vI l5), some (vI l6)], [vI r12, vR 111], σ11)) rfl ?_
      refine run_callN (w := fun a => some (vI a)) (m := 257) (as := [vR 111, vI r12]) (pc := 117) (ls := [some (vR 111), some (vI l1), g2, some (vI r12), some (vI l4), some (vI l5), some (vI l6)]) (st' := []) (σ := σ11) hf rfl (fun _ h => (c_M_sortOf h).mono (by decide)) (fun r13 hf => ?_)
      refine run_seg (k := 2) (s' := (if r13 = 1 then (121, [some (vR 111), some (vI l1), g2, some (vI r12), some (vI l4), some (vI l5), some (vI l6)], [], σ11) else (123, [some (vR 111), some (vI l1), g2, some (vI r12), some (vI l4), some (vI l5), some (vI l6)], [], σ11))) rfl ?_
      refine run_ite hf (fun _ hf => ?_) (fun _ hf => ?_)
      · refine run_seg (k := 3) (s' := (12, [some (vR 111), some (vI l1), g2, some (vI 0), some (vI l4), some (vI l5), some (vI l6)], [], σ11)) rfl ?_
        exact hk12 hf
      · refine run_seg (k := 1) (s' := (12, [some (vR 111), some (vI l1), g2, some (vI r12), some (vI l4), some (vI l5), some (vI l6)], [], σ11)) rfl ?_
        exact hk12 hf
    · refine run_seg (k := 5) (s' := (82, [some (vR 111), some (vI l1), g2, some (vI l3), some (vI l4), some (vI l5), some (vI l6)], [vI l6, vI l4, vR 113, vI l5], σ)) rfl ?_
      refine run_callN (w := fun a => some (vI a)) (m := 236) (as := [vR 113, vI l4, vI l6]) (pc := 85) (ls := [some (vR 111), some (vI l1), g2, some (vI l3), some (vI l4), some (vI l5), some (vI l6)]) (st' := [vI l5]) (σ := σ) hf rfl (fun _ h => (c_M_sideOf h).mono (by decide)) (fun r14 hf => ?_)
      refine run_seg (k := 2) (s' := (88, [some (vR 111), some (vI l1), g2, some (vI l3), some (vI l4), some (vI (w32 (l5 - r14))), some (vI l6)], [], σ)) rfl ?_
      refine run_let (fun x15 => (88, [some (vR 111), some (vI l1), g2, some (vI l3), some (vI l4), some (vI x15), some (vI l6)], [], σ)) hf (fun x15 hf => ?_)
      refine run_seg (k := 1) (s' := (91, [some (vR 111), some (vI l1), g2, some (vI l3), some (vI l4), some (vI x15), some (vI (w32 (l6 + 1)))], [], σ)) rfl ?_
      refine run_let (fun x16 => (91, [some (vR 111), some (vI l1), g2, some (vI l3), some (vI l4), some (vI x15), some (vI x16)], [], σ)) hf (fun x16 hf => ?_)
      refine run_seg (k := 1) (s' := (56, [some (vR 111), some (vI l1), g2, some (vI l3), some (vI l4), some (vI x15), some (vI x16)], [], σ)) rfl ?_
      exact ih hf
theorem r_M_castBy_12 : ∀ (n : Nat) {l1 : Int} {l3 : Int} {g2 : Option xV} {g4 : Option xV} {g5 : Option xV} {g6 : Option xV} {σ : xSt} {r : Int × xSt}, f_M_castBy_12 n l1 l3 σ = some r → Run 1 12 1 kX12_castBy (12, [some (vR 111), some (vI l1), g2, some (vI l3), g4, g5, g6], [], σ) (tIW r) := by
  intro n
  induction n with
  | zero =>
    intro _ _ _ _ _ _ _ _ h
    exact nomatch (show (none : Option (Int × xSt)) = some _ from h)
  | succ n ih =>
    intro l1 l3 g2 g4 g5 g6 σ r hf
    unfold f_M_castBy_12 at hf
    refine run_seg (k := 2) (s' := (14, [some (vR 111), some (vI l1), g2, some (vI l3), g4, g5, g6], [vI l3, vR 111], σ)) rfl ?_
    refine run_callN (w := fun a => some (vI a)) (m := 257) (as := [vR 111, vI l3]) (pc := 17) (ls := [some (vR 111), some (vI l1), g2, some (vI l3), g4, g5, g6]) (st' := []) (σ := σ) hf rfl (fun _ h => (c_M_sortOf h).mono (by decide)) (fun r3 hf => ?_)
    refine run_seg (k := 2) (s' := (if r3 = 2 then (21, [some (vR 111), some (vI l1), g2, some (vI l3), g4, g5, g6], [], σ) else (126, [some (vR 111), some (vI l1), g2, some (vI l3), g4, g5, g6], [], σ))) rfl ?_
    refine run_ite hf (fun _ hf => ?_) (fun _ hf => ?_)
    · refine run_seg (k := 4) (s' := (if σ 111 68 = l1 then (29, [some (vR 111), some (vI l1), g2, some (vI l3), g4, g5, g6], [], σ) else (31, [some (vR 111), some (vI l1), g2, some (vI l3), g4, g5, g6], [], σ))) rfl ?_
      refine run_ite hf (fun _ hf => ?_) (fun _ hf => ?_)
      · refine run_seg (k := 1) (s' := (30, [some (vR 111), some (vI l1), g2, some (vI l3), g4, g5, g6], [vI (-1)], σ)) rfl ?_
        exact run_ret hf rfl
      · refine run_seg (k := 2) (s' := (33, [some (vR 111), some (vI l1), g2, some (vI l3), g4, g5, g6], [vI l3, vR 111], σ)) rfl ?_
        refine run_callN (w := fun a => some (vI a)) (m := 258) (as := [vR 111, vI l3]) (pc := 36) (ls := [some (vR 111), some (vI l1), g2, some (vI l3), g4, g5, g6]) (st' := []) (σ := σ) hf rfl (fun _ h => (c_M_whichOf h).mono (by decide)) (fun r4 hf => ?_)
        refine run_seg (k := 5) (s' := (45, [some (vR 111), some (vI l1), g2, some (vI l3), some (vI r4), g5, g6], [vI r4, vR 113, vR 111], σ)) rfl ?_
        refine run_callN (w := fun a => some (vI a)) (m := 235) (as := [vR 113, vI r4]) (pc := 48) (ls := [some (vR 111), some (vI l1), g2, some (vI l3), some (vI r4), g5, g6]) (st' := [vR 111]) (σ := σ) hf rfl (fun _ h => (c_M_partsOf h).mono (by decide)) (fun r5 hf => ?_)
        refine run_callW (w := fun a => some (vI a)) (m := 332) (as := [vR 111, vI r5]) (pc := 51) (ls := [some (vR 111), some (vI l1), g2, some (vI l3), some (vI r4), g5, g6]) (st' := []) (σ := σ) hf rfl (fun _ _ h => (c_M_draw h).mono (by decide)) (fun r6 σ7 hf => ?_)
        refine run_seg (k := 3) (s' := (56, [some (vR 111), some (vI l1), g2, some (vI l3), some (vI r4), some (vI r6), some (vI 0)], [], σ7)) rfl ?_
        exact r_M_castBy_56 (fun h => ih h) 1000000 hf
    · refine run_seg (k := 2) (s' := (128, [some (vR 111), some (vI l1), g2, some (vI l3), g4, g5, g6], [vI l3, vR 111], σ)) rfl ?_
      refine run_callN (w := fun a => some (vI a)) (m := 257) (as := [vR 111, vI l3]) (pc := 131) (ls := [some (vR 111), some (vI l1), g2, some (vI l3), g4, g5, g6]) (st' := []) (σ := σ) hf rfl (fun _ h => (c_M_sortOf h).mono (by decide)) (fun r8 hf => ?_)
      refine run_seg (k := 1) (s' := (if r8 = 0 then (134, [some (vR 111), some (vI l1), g2, some (vI l3), g4, g5, g6], [], σ) else (142, [some (vR 111), some (vI l1), g2, some (vI l3), g4, g5, g6], [], σ))) rfl ?_
      refine run_ite hf (fun _ hf => ?_) (fun _ hf => ?_)
      · refine run_seg (k := 2) (s' := (136, [some (vR 111), some (vI l1), g2, some (vI l3), g4, g5, g6], [vI l3, vR 111], σ)) rfl ?_
        refine run_callN (w := fun a => some (vI a)) (m := 258) (as := [vR 111, vI l3]) (pc := 139) (ls := [some (vR 111), some (vI l1), g2, some (vI l3), g4, g5, g6]) (st' := []) (σ := σ) hf rfl (fun _ h => (c_M_whichOf h).mono (by decide)) (fun r9 hf => ?_)
        refine run_seg (k := 1) (s' := (143, [some (vR 111), some (vI l1), g2, some (vI l3), g4, g5, g6], [vI r9], σ)) rfl ?_
        exact run_ret hf rfl
      · refine run_seg (k := 1) (s' := (143, [some (vR 111), some (vI l1), g2, some (vI l3), g4, g5, g6], [vI (-1)], σ)) rfl ?_
        exact run_ret hf rfl
theorem c_M_castBy {p1 : Int} {p2 : Int} {σ : xSt} {r : Int × xSt} (hf : f_M_castBy p1 p2 σ = some r) : Call (1 + 1) 333 [vR 111, vI p1, vI p2] σ (tIW r).1 (tIW r).2 := by
  unfold f_M_castBy at hf
  refine call_of (own := 12) (rk := 1) (cd := kX12_castBy) (ls := [some (vR 111), some (vI p1), some (vI p2), none, none, none, none]) (rT := tIW) rfl rfl rfl rfl rfl ?_
  refine run_seg (k := 3) (s' := (5, [some (vR 111), some (vI p1), some (vI p2), none, none, none, none], [], upS σ 111 67 p2)) rfl ?_
  refine run_let (fun σ1 => (5, [some (vR 111), some (vI p1), some (vI p2), none, none, none, none], [], σ1)) hf (fun σ1 hf => ?_)
  refine run_seg (k := 3) (s' := (10, [some (vR 111), some (vI p1), some (vI p2), none, none, none, none], [], upS σ1 111 68 0)) rfl ?_
  refine run_let (fun σ2 => (10, [some (vR 111), some (vI p1), some (vI p2), none, none, none, none], [], σ2)) hf (fun σ2 hf => ?_)
  refine run_seg (k := 2) (s' := (12, [some (vR 111), some (vI p1), some (vI p2), some (vI 0), none, none, none], [], σ2)) rfl ?_
  exact r_M_castBy_12 1000000 hf
/-- BentPennyModel.cast(II)I -/
def f_M_cast (p1 : Int) (p2 : Int) (σ : xSt) : Option (Int × xSt) :=
  xlet (upS σ 111 0 0) fun σ1 =>
  xbR (f_M_lay σ1) fun σ2 =>
  xbR (f_M_hasWay σ2) fun r3 =>
  if r3 = 0 then (some ((-2), σ2))
  else (xbR (f_M_isOpenIn σ2) fun r4 =>
  if r4 = 0 then (xbR (f_M_isIn p1 1 400 σ2) fun r5 =>
  if r5 = 0 then (some ((-2), σ2))
  else (xbW (f_M_castBy p1 p2 σ2) fun r6 σ7 =>
  xlet (upS σ7 111 69 (σ7 111 68)) fun σ8 =>
  some (r6, σ8)))
  else (some ((-2), σ2)))
theorem c_M_cast {p1 : Int} {p2 : Int} {σ : xSt} {r : Int × xSt} (hf : f_M_cast p1 p2 σ = some r) : Call (62 + 1) 334 [vR 111, vI p1, vI p2] σ (tIW r).1 (tIW r).2 := by
  unfold f_M_cast at hf
  refine call_of (own := 12) (rk := 1) (cd := kX12_cast) (ls := [some (vR 111), some (vI p1), some (vI p2), none]) (rT := tIW) rfl rfl rfl rfl rfl ?_
  refine run_seg (k := 3) (s' := (5, [some (vR 111), some (vI p1), some (vI p2), none], [], upS σ 111 0 0)) rfl ?_
  refine run_let (fun σ1 => (5, [some (vR 111), some (vI p1), some (vI p2), none], [], σ1)) hf (fun σ1 hf => ?_)
  refine run_seg (k := 1) (s' := (6, [some (vR 111), some (vI p1), some (vI p2), none], [vR 111], σ1)) rfl ?_
  refine run_callV (m := 233) (as := [vR 111]) (pc := 9) (ls := [some (vR 111), some (vI p1), some (vI p2), none]) (st' := []) (σ := σ1) hf rfl (fun _ h => (c_M_lay h).mono (by decide)) (fun σ2 hf => ?_)
  refine run_seg (k := 1) (s' := (10, [some (vR 111), some (vI p1), some (vI p2), none], [vR 111], σ2)) rfl ?_
  refine run_callN (w := fun a => some (vI a)) (m := 263) (as := [vR 111]) (pc := 13) (ls := [some (vR 111), some (vI p1), some (vI p2), none]) (st' := []) (σ := σ2) hf rfl (fun _ h => (c_M_hasWay h).mono (by decide)) (fun r3 hf => ?_)
  refine run_seg (k := 1) (s' := (if r3 = 0 then (34, [some (vR 111), some (vI p1), some (vI p2), none], [], σ2) else (16, [some (vR 111), some (vI p1), some (vI p2), none], [], σ2))) rfl ?_
  refine run_ite hf (fun _ hf => ?_) (fun _ hf => ?_)
  · refine run_seg (k := 1) (s' := (36, [some (vR 111), some (vI p1), some (vI p2), none], [vI (-2)], σ2)) rfl ?_
    exact run_ret hf rfl
  · refine run_seg (k := 1) (s' := (17, [some (vR 111), some (vI p1), some (vI p2), none], [vR 111], σ2)) rfl ?_
    refine run_callN (w := fun a => some (vI a)) (m := 271) (as := [vR 111]) (pc := 20) (ls := [some (vR 111), some (vI p1), some (vI p2), none]) (st' := []) (σ := σ2) hf rfl (fun _ h => (c_M_isOpenIn h).mono (by decide)) (fun r4 hf => ?_)
    refine run_seg (k := 1) (s' := (if r4 = 0 then (23, [some (vR 111), some (vI p1), some (vI p2), none], [], σ2) else (34, [some (vR 111), some (vI p1), some (vI p2), none], [], σ2))) rfl ?_
    refine run_ite hf (fun _ hf => ?_) (fun _ hf => ?_)
    · refine run_seg (k := 3) (s' := (28, [some (vR 111), some (vI p1), some (vI p2), none], [vI 400, vI 1, vI p1], σ2)) rfl ?_
      refine run_callN (w := fun a => some (vI a)) (m := 216) (as := [vI p1, vI 1, vI 400]) (pc := 31) (ls := [some (vR 111), some (vI p1), some (vI p2), none]) (st' := []) (σ := σ2) hf rfl (fun _ h => (c_M_isIn h).mono (by decide)) (fun r5 hf => ?_)
      refine run_seg (k := 1) (s' := (if r5 = 0 then (34, [some (vR 111), some (vI p1), some (vI p2), none], [], σ2) else (37, [some (vR 111), some (vI p1), some (vI p2), none], [], σ2))) rfl ?_
      refine run_ite hf (fun _ hf => ?_) (fun _ hf => ?_)
      · refine run_seg (k := 1) (s' := (36, [some (vR 111), some (vI p1), some (vI p2), none], [vI (-2)], σ2)) rfl ?_
        exact run_ret hf rfl
      · refine run_seg (k := 3) (s' := (40, [some (vR 111), some (vI p1), some (vI p2), none], [vI p2, vI p1, vR 111], σ2)) rfl ?_
        refine run_callW (w := fun a => some (vI a)) (m := 333) (as := [vR 111, vI p1, vI p2]) (pc := 43) (ls := [some (vR 111), some (vI p1), some (vI p2), none]) (st' := []) (σ := σ2) hf rfl (fun _ _ h => (c_M_castBy h).mono (by decide)) (fun r6 σ7 hf => ?_)
        refine run_seg (k := 5) (s' := (52, [some (vR 111), some (vI p1), some (vI p2), some (vI r6)], [], upS σ7 111 69 (σ7 111 68))) rfl ?_
        refine run_let (fun σ8 => (52, [some (vR 111), some (vI p1), some (vI p2), some (vI r6)], [], σ8)) hf (fun σ8 hf => ?_)
        refine run_seg (k := 1) (s' := (53, [some (vR 111), some (vI p1), some (vI p2), some (vI r6)], [vI r6], σ8)) rfl ?_
        exact run_ret hf rfl
    · refine run_seg (k := 1) (s' := (36, [some (vR 111), some (vI p1), some (vI p2), none], [vI (-2)], σ2)) rfl ?_
      exact run_ret hf rfl
/-- BentPennyModel.tosses()I -/
def f_M_tosses (σ : xSt) : Option (Int × xSt) :=
  xlet (upS σ 111 0 0) fun σ1 =>
  some (σ1 111 69, σ1)
theorem c_M_tosses {σ : xSt} {r : Int × xSt} (hf : f_M_tosses σ = some r) : Call (0 + 1) 335 [vR 111] σ (tIW r).1 (tIW r).2 := by
  unfold f_M_tosses at hf
  refine call_of (own := 12) (rk := 1) (cd := kX12_tosses) (ls := [some (vR 111)]) (rT := tIW) rfl rfl rfl rfl rfl ?_
  refine run_seg (k := 3) (s' := (5, [some (vR 111)], [], upS σ 111 0 0)) rfl ?_
  refine run_let (fun σ1 => (5, [some (vR 111)], [], σ1)) hf (fun σ1 hf => ?_)
  refine run_seg (k := 2) (s' := (9, [some (vR 111)], [vI (σ1 111 69)], σ1)) rfl ?_
  exact run_ret hf rfl
def f_M_casts_50 : Nat → Int → Int → Int → Int → Int → xSt → Option (Int × xSt)
  | 0, _, _, _, _, _, _ => none
  | n + 1, l1, l2, l3, l4, l5, σ =>
    if l5 < l1 then (xbW (f_M_castBy 400 (w32 (l2 + l5)) σ) fun r7 σ8 =>
    if r7 = l3 then (xlet (w32 (l4 + 1)) fun x9 =>
    xlet (w32 (l5 + 1)) fun x10 =>
    f_M_casts_50 n l1 l2 l3 x9 x10 σ8)
    else (xlet (w32 (l5 + 1)) fun x11 =>
    f_M_casts_50 n l1 l2 l3 l4 x11 σ8))
    else (some (l4, σ))
/-- BentPennyModel.casts(III)I -/
def f_M_casts (p1 : Int) (p2 : Int) (p3 : Int) (σ : xSt) : Option (Int × xSt) :=
  xlet (upS σ 111 0 0) fun σ1 =>
  xbR (f_M_lay σ1) fun σ2 =>
  xbR (f_M_isIn p1 1 200 σ2) fun r3 =>
  if r3 = 0 then (some ((-1), σ2))
  else (xbR (f_M_isEnd p3 σ2) fun r4 =>
  if r4 = 0 then (some ((-1), σ2))
  else (xbR (f_M_hasWay σ2) fun r5 =>
  if r5 = 0 then (some ((-1), σ2))
  else (xbR (f_M_isOpenIn σ2) fun r6 =>
  if r6 = 0 then (f_M_casts_50 1000000 p1 p2 p3 0 0 σ2)
  else (some ((-1), σ2)))))
theorem r_M_casts_50 : ∀ (n : Nat) {l1 : Int} {l2 : Int} {l3 : Int} {l4 : Int} {l5 : Int} {σ : xSt} {r : Int × xSt}, f_M_casts_50 n l1 l2 l3 l4 l5 σ = some r → Run 62 12 1 kX12_casts (50, [some (vR 111), some (vI l1), some (vI l2), some (vI l3), some (vI l4), some (vI l5)], [], σ) (tIW r) := by
  intro n
  induction n with
  | zero =>
    intro _ _ _ _ _ _ _ h
    exact nomatch (show (none : Option (Int × xSt)) = some _ from h)
  | succ n ih =>
    intro l1 l2 l3 l4 l5 σ r hf
    unfold f_M_casts_50 at hf
    refine run_seg (k := 3) (s' := (if l5 < l1 then (56, [some (vR 111), some (vI l1), some (vI l2), some (vI l3), some (vI l4), some (vI l5)], [], σ) else (80, [some (vR 111), some (vI l1), some (vI l2), some (vI l3), some (vI l4), some (vI l5)], [], σ))) rfl ?_
    refine run_ite hf (fun _ hf => ?_) (fun _ hf => ?_)
    · refine run_seg (k := 5) (s' := (64, [some (vR 111), some (vI l1), some (vI l2), some (vI l3), some (vI l4), some (vI l5)], [vI (w32 (l2 + l5)), vI 400, vR 111], σ)) rfl ?_
      refine run_callW (w := fun a => some (vI a)) (m := 333) (as := [vR 111, vI 400, vI (w32 (l2 + l5))]) (pc := 67) (ls := [some (vR 111), some (vI l1), some (vI l2), some (vI l3), some (vI l4), some (vI l5)]) (st' := []) (σ := σ) hf rfl (fun _ _ h => (c_M_castBy h).mono (by decide)) (fun r7 σ8 hf => ?_)
      refine run_seg (k := 2) (s' := (if r7 = l3 then (71, [some (vR 111), some (vI l1), some (vI l2), some (vI l3), some (vI l4), some (vI l5)], [], σ8) else (74, [some (vR 111), some (vI l1), some (vI l2), some (vI l3), some (vI l4), some (vI l5)], [], σ8))) rfl ?_
      refine run_ite hf (fun _ hf => ?_) (fun _ hf => ?_)
      · refine run_seg (k := 1) (s' := (74, [some (vR 111), some (vI l1), some (vI l2), some (vI l3), some (vI (w32 (l4 + 1))), some (vI l5)], [], σ8)) rfl ?_
        refine run_let (fun x9 => (74, [some (vR 111), some (vI l1), some (vI l2), some (vI l3), some (vI x9), some (vI l5)], [], σ8)) hf (fun x9 hf => ?_)
        refine run_seg (k := 1) (s' := (77, [some (vR 111), some (vI l1), some (vI l2), some (vI l3), some (vI x9), some (vI (w32 (l5 + 1)))], [], σ8)) rfl ?_
        refine run_let (fun x10 => (77, [some (vR 111), some (vI l1), some (vI l2), some (vI l3), some (vI x9), some (vI x10)], [], σ8)) hf (fun x10 hf => ?_)
        refine run_seg (k := 1) (s' := (50, [some (vR 111), some (vI l1), some (vI l2), some (vI l3), some (vI x9), some (vI x10)], [], σ8)) rfl ?_
        exact ih hf
      · refine run_seg (k := 1) (s' := (77, [some (vR 111), some (vI l1), some (vI l2), some (vI l3), some (vI l4), some (vI (w32 (l5 + 1)))], [], σ8)) rfl ?_
        refine run_let (fun x11 => (77, [some (vR 111), some (vI l1), some (vI l2), some (vI l3), some (vI l4), some (vI x11)], [], σ8)) hf (fun x11 hf => ?_)
        refine run_seg (k := 1) (s' := (50, [some (vR 111), some (vI l1), some (vI l2), some (vI l3), some (vI l4), some (vI x11)], [], σ8)) rfl ?_
        exact ih hf
    · refine run_seg (k := 1) (s' := (82, [some (vR 111), some (vI l1), some (vI l2), some (vI l3), some (vI l4), some (vI l5)], [vI l4], σ)) rfl ?_
      exact run_ret hf rfl
theorem c_M_casts {p1 : Int} {p2 : Int} {p3 : Int} {σ : xSt} {r : Int × xSt} (hf : f_M_casts p1 p2 p3 σ = some r) : Call (62 + 1) 336 [vR 111, vI p1, vI p2, vI p3] σ (tIW r).1 (tIW r).2 := by
  unfold f_M_casts at hf
  refine call_of (own := 12) (rk := 1) (cd := kX12_casts) (ls := [some (vR 111), some (vI p1), some (vI p2), some (vI p3), none, none]) (rT := tIW) rfl rfl rfl rfl rfl ?_
  refine run_seg (k := 3) (s' := (5, [some (vR 111), some (vI p1), some (vI p2), some (vI p3), none, none], [], upS σ 111 0 0)) rfl ?_
  refine run_let (fun σ1 => (5, [some (vR 111), some (vI p1), some (vI p2), some (vI p3), none, none], [], σ1)) hf (fun σ1 hf => ?_)
  refine run_seg (k := 1) (s' := (6, [some (vR 111), some (vI p1), some (vI p2), some (vI p3), none, none], [vR 111], σ1)) rfl ?_
  refine run_callV (m := 233) (as := [vR 111]) (pc := 9) (ls := [some (vR 111), some (vI p1), some (vI p2), some (vI p3), none, none]) (st' := []) (σ := σ1) hf rfl (fun _ h => (c_M_lay h).mono (by decide)) (fun σ2 hf => ?_)
  refine run_seg (k := 3) (s' := (14, [some (vR 111), some (vI p1), some (vI p2), some (vI p3), none, none], [vI 200, vI 1, vI p1], σ2)) rfl ?_
  refine run_callN (w := fun a => some (vI a)) (m := 216) (as := [vI p1, vI 1, vI 200]) (pc := 17) (ls := [some (vR 111), some (vI p1), some (vI p2), some (vI p3), none, none]) (st' := []) (σ := σ2) hf rfl (fun _ h => (c_M_isIn h).mono (by decide)) (fun r3 hf => ?_)
  refine run_seg (k := 1) (s' := (if r3 = 0 then (42, [some (vR 111), some (vI p1), some (vI p2), some (vI p3), none, none], [], σ2) else (20, [some (vR 111), some (vI p1), some (vI p2), some (vI p3), none, none], [], σ2))) rfl ?_
  refine run_ite hf (fun _ hf => ?_) (fun _ hf => ?_)
  · refine run_seg (k := 1) (s' := (43, [some (vR 111), some (vI p1), some (vI p2), some (vI p3), none, none], [vI (-1)], σ2)) rfl ?_
    exact run_ret hf rfl
  · refine run_seg (k := 2) (s' := (22, [some (vR 111), some (vI p1), some (vI p2), some (vI p3), none, none], [vI p3, vR 111], σ2)) rfl ?_
    refine run_callN (w := fun a => some (vI a)) (m := 248) (as := [vR 111, vI p3]) (pc := 25) (ls := [some (vR 111), some (vI p1), some (vI p2), some (vI p3), none, none]) (st' := []) (σ := σ2) hf rfl (fun _ h => (c_M_isEnd h).mono (by decide)) (fun r4 hf => ?_)
    refine run_seg (k := 1) (s' := (if r4 = 0 then (42, [some (vR 111), some (vI p1), some (vI p2), some (vI p3), none, none], [], σ2) else (28, [some (vR 111), some (vI p1), some (vI p2), some (vI p3), none, none], [], σ2))) rfl ?_
    refine run_ite hf (fun _ hf => ?_) (fun _ hf => ?_)
    · refine run_seg (k := 1) (s' := (43, [some (vR 111), some (vI p1), some (vI p2), some (vI p3), none, none], [vI (-1)], σ2)) rfl ?_
      exact run_ret hf rfl
    · refine run_seg (k := 1) (s' := (29, [some (vR 111), some (vI p1), some (vI p2), some (vI p3), none, none], [vR 111], σ2)) rfl ?_
      refine run_callN (w := fun a => some (vI a)) (m := 263) (as := [vR 111]) (pc := 32) (ls := [some (vR 111), some (vI p1), some (vI p2), some (vI p3), none, none]) (st' := []) (σ := σ2) hf rfl (fun _ h => (c_M_hasWay h).mono (by decide)) (fun r5 hf => ?_)
      refine run_seg (k := 1) (s' := (if r5 = 0 then (42, [some (vR 111), some (vI p1), some (vI p2), some (vI p3), none, none], [], σ2) else (35, [some (vR 111), some (vI p1), some (vI p2), some (vI p3), none, none], [], σ2))) rfl ?_
      refine run_ite hf (fun _ hf => ?_) (fun _ hf => ?_)
      · refine run_seg (k := 1) (s' := (43, [some (vR 111), some (vI p1), some (vI p2), some (vI p3), none, none], [vI (-1)], σ2)) rfl ?_
        exact run_ret hf rfl
      · refine run_seg (k := 1) (s' := (36, [some (vR 111), some (vI p1), some (vI p2), some (vI p3), none, none], [vR 111], σ2)) rfl ?_
        refine run_callN (w := fun a => some (vI a)) (m := 271) (as := [vR 111]) (pc := 39) (ls := [some (vR 111), some (vI p1), some (vI p2), some (vI p3), none, none]) (st' := []) (σ := σ2) hf rfl (fun _ h => (c_M_isOpenIn h).mono (by decide)) (fun r6 hf => ?_)
        refine run_seg (k := 1) (s' := (if r6 = 0 then (44, [some (vR 111), some (vI p1), some (vI p2), some (vI p3), none, none], [], σ2) else (42, [some (vR 111), some (vI p1), some (vI p2), some (vI p3), none, none], [], σ2))) rfl ?_
        refine run_ite hf (fun _ hf => ?_) (fun _ hf => ?_)
        · refine run_seg (k := 4) (s' := (50, [some (vR 111), some (vI p1), some (vI p2), some (vI p3), some (vI 0), some (vI 0)], [], σ2)) rfl ?_
          exact r_M_casts_50 1000000 hf
        · refine run_seg (k := 1) (s' := (43, [some (vR 111), some (vI p1), some (vI p2), some (vI p3), none, none], [vI (-1)], σ2)) rfl ?_
          exact run_ret hf rfl
/-- BentPennyModel.saysOne(IIII)I -/
def f_M_saysOne (p1 : Int) (p2 : Int) (p3 : Int) (p4 : Int) (σ : xSt) : Option (Int × xSt) :=
  xlet (w32 (4 * (σ 111 71))) fun x1 =>
  if 0 ≤ x1 ∧ x1 < 240 then (
  xlet (upS σ 138 x1.toNat p1) fun σ2 =>
  if 0 ≤ w32 (x1 + 1) ∧ w32 (x1 + 1) < 240 then (
  xlet (upS σ2 138 (w32 (x1 + 1)).toNat p2) fun σ3 =>
  if 0 ≤ w32 (x1 + 2) ∧ w32 (x1 + 2) < 240 then (
  xlet (upS σ3 138 (w32 (x1 + 2)).toNat p3) fun σ4 =>
  if 0 ≤ w32 (x1 + 3) ∧ w32 (x1 + 3) < 240 then (
  xlet (upS σ4 138 (w32 (x1 + 3)).toNat p4) fun σ5 =>
  xlet (upS σ5 111 71 (w32 ((σ5 111 71) + 1))) fun σ6 =>
  some (w32 ((σ6 111 71) - 1), σ6)) else none) else none) else none) else none
theorem c_M_saysOne {p1 : Int} {p2 : Int} {p3 : Int} {p4 : Int} {σ : xSt} {r : Int × xSt} (hf : f_M_saysOne p1 p2 p3 p4 σ = some r) : Call (0 + 1) 337 [vR 111, vI p1, vI p2, vI p3, vI p4] σ (tIW r).1 (tIW r).2 := by
  unfold f_M_saysOne at hf
  refine call_of (own := 12) (rk := 1) (cd := kX12_saysOne) (ls := [some (vR 111), some (vI p1), some (vI p2), some (vI p3), some (vI p4), none]) (rT := tIW) rfl rfl rfl rfl rfl ?_
  refine run_seg (k := 5) (s' := (8, [some (vR 111), some (vI p1), some (vI p2), some (vI p3), some (vI p4), some (vI (w32 (4 * (σ 111 71))))], [], σ)) rfl ?_
  refine run_let (fun x1 => (8, [some (vR 111), some (vI p1), some (vI p2), some (vI p3), some (vI p4), some (vI x1)], [], σ)) hf (fun x1 hf => ?_)
  refine run_seg (k := 4) (s' := (15, [some (vR 111), some (vI p1), some (vI p2), some (vI p3), some (vI p4), some (vI x1)], [vI p1, vI x1, vR 138], σ)) rfl ?_
  refine run_guard (s' := (16, [some (vR 111), some (vI p1), some (vI p2), some (vI p3), some (vI p4), some (vI x1)], [], upS σ 138 x1.toNat p1)) hf rfl (fun hf => ?_)
  refine run_let (fun σ2 => (16, [some (vR 111), some (vI p1), some (vI p2), some (vI p3), some (vI p4), some (vI x1)], [], σ2)) hf (fun σ2 hf => ?_)
  refine run_seg (k := 6) (s' := (25, [some (vR 111), some (vI p1), some (vI p2), some (vI p3), some (vI p4), some (vI x1)], [vI p2, vI (w32 (x1 + 1)), vR 138], σ2)) rfl ?_
  refine run_guard (s' := (26, [some (vR 111), some (vI p1), some (vI p2), some (vI p3), some (vI p4), some (vI x1)], [], upS σ2 138 (w32 (x1 + 1)).toNat p2)) hf rfl (fun hf => ?_)
  refine run_let (fun σ3 => (26, [some (vR 111), some (vI p1), some (vI p2), some (vI p3), some (vI p4), some (vI x1)], [], σ3)) hf (fun σ3 hf => ?_)
  refine run_seg (k := 6) (s' := (35, [some (vR 111), some (vI p1), some (vI p2), some (vI p3), some (vI p4), some (vI x1)], [vI p3, vI (w32 (x1 + 2)), vR 138], σ3)) rfl ?_
  refine run_guard (s' := (36, [some (vR 111), some (vI p1), some (vI p2), some (vI p3), some (vI p4), some (vI x1)], [], upS σ3 138 (w32 (x1 + 2)).toNat p3)) hf rfl (fun hf => ?_)
  refine run_let (fun σ4 => (36, [some (vR 111), some (vI p1), some (vI p2), some (vI p3), some (vI p4), some (vI x1)], [], σ4)) hf (fun σ4 hf => ?_)
  refine run_seg (k := 6) (s' := (46, [some (vR 111), some (vI p1), some (vI p2), some (vI p3), some (vI p4), some (vI x1)], [vI p4, vI (w32 (x1 + 3)), vR 138], σ4)) rfl ?_
  refine run_guard (s' := (47, [some (vR 111), some (vI p1), some (vI p2), some (vI p3), some (vI p4), some (vI x1)], [], upS σ4 138 (w32 (x1 + 3)).toNat p4)) hf rfl (fun hf => ?_)
  refine run_let (fun σ5 => (47, [some (vR 111), some (vI p1), some (vI p2), some (vI p3), some (vI p4), some (vI x1)], [], σ5)) hf (fun σ5 hf => ?_)
  refine run_seg (k := 6) (s' := (57, [some (vR 111), some (vI p1), some (vI p2), some (vI p3), some (vI p4), some (vI x1)], [], upS σ5 111 71 (w32 ((σ5 111 71) + 1)))) rfl ?_
  refine run_let (fun σ6 => (57, [some (vR 111), some (vI p1), some (vI p2), some (vI p3), some (vI p4), some (vI x1)], [], σ6)) hf (fun σ6 hf => ?_)
  refine run_seg (k := 4) (s' := (63, [some (vR 111), some (vI p1), some (vI p2), some (vI p3), some (vI p4), some (vI x1)], [vI (w32 ((σ6 111 71) - 1))], σ6)) rfl ?_
  exact run_ret hf rfl
/-- BentPennyModel.readNamed(I)Z -/
def f_M_readNamed (p1 : Int) (σ : xSt) : Option (Int × xSt) :=
  xbR (f_M_isName σ) fun r1 =>
  if r1 = 0 then (xbW (f_M_bad 1 σ) fun r2 σ3 =>
  some (xnb r2, σ3))
  else (xbR (f_M_ends σ) fun r4 =>
  xbR (f_M_findIn 117 3 r4 (σ 111 12) σ) fun r5 =>
  if r5 = (-1) then (xbW (f_M_bad 3 σ) fun r6 σ7 =>
  some (xnb r6, σ7))
  else (xbW (f_M_saysOne (w32 (50 + p1)) r5 0 0 σ) fun r8 σ9 =>
  xlet (upS σ9 111 74 r8) fun σ10 =>
  xbR (f_M_go σ10) fun σ11 =>
  some (1, σ11)))
theorem c_M_readNamed {p1 : Int} {σ : xSt} {r : Int × xSt} (hf : f_M_readNamed p1 σ = some r) : Call (3 + 1) 343 [vR 111, vI p1] σ (tIW r).1 (tIW r).2 := by
  unfold f_M_readNamed at hf
  refine call_of (own := 12) (rk := 2) (cd := kX12_readNamed) (ls := [some (vR 111), some (vI p1), none]) (rT := tIW) rfl rfl rfl rfl rfl ?_
  refine run_seg (k := 1) (s' := (1, [some (vR 111), some (vI p1), none], [vR 111], σ)) rfl ?_
  refine run_callN (w := fun a => some (vI a)) (m := 228) (as := [vR 111]) (pc := 4) (ls := [some (vR 111), some (vI p1), none]) (st' := []) (σ := σ) hf rfl (fun _ h => (c_M_isName h).mono (by decide)) (fun r1 hf => ?_)
  refine run_seg (k := 1) (s' := (if r1 = 0 then (7, [some (vR 111), some (vI p1), none], [], σ) else (13, [some (vR 111), some (vI p1), none], [], σ))) rfl ?_
  refine run_ite hf (fun _ hf => ?_) (fun _ hf => ?_)
  · refine run_seg (k := 2) (s' := (9, [some (vR 111), some (vI p1), none], [vI 1, vR 111], σ)) rfl ?_
    refine run_callW (w := fun a => some (vI a)) (m := 229) (as := [vR 111, vI 1]) (pc := 12) (ls := [some (vR 111), some (vI p1), none]) (st' := []) (σ := σ) hf rfl (fun _ _ h => (c_M_bad h).mono (by decide)) (fun r2 σ3 hf => ?_)
    exact run_ret hf rfl
  · refine run_seg (k := 4) (s' := (19, [some (vR 111), some (vI p1), none], [vR 111, vI 3, vR 117], σ)) rfl ?_
    refine run_callN (w := fun a => some (vI a)) (m := 246) (as := [vR 111]) (pc := 22) (ls := [some (vR 111), some (vI p1), none]) (st' := [vI 3, vR 117]) (σ := σ) hf rfl (fun _ h => (c_M_ends h).mono (by decide)) (fun r4 hf => ?_)
    refine run_seg (k := 2) (s' := (26, [some (vR 111), some (vI p1), none], [vL (σ 111 12), vI r4, vI 3, vR 117], σ)) rfl ?_
    refine run_callN (w := fun a => some (vI a)) (m := 237) (as := [vR 117, vI 3, vI r4, vL (σ 111 12)]) (pc := 29) (ls := [some (vR 111), some (vI p1), none]) (st' := []) (σ := σ) hf rfl (fun _ h => (c_M_findIn_117 h).mono (by decide)) (fun r5 hf => ?_)
    refine run_seg (k := 4) (s' := (if r5 = (-1) then (35, [some (vR 111), some (vI p1), some (vI r5)], [], σ) else (41, [some (vR 111), some (vI p1), some (vI r5)], [], σ))) rfl ?_
    refine run_ite hf (fun _ hf => ?_) (fun _ hf => ?_)
    · refine run_seg (k := 2) (s' := (37, [some (vR 111), some (vI p1), some (vI r5)], [vI 3, vR 111], σ)) rfl ?_
      refine run_callW (w := fun a => some (vI a)) (m := 229) (as := [vR 111, vI 3]) (pc := 40) (ls := [some (vR 111), some (vI p1), some (vI r5)]) (st' := []) (σ := σ) hf rfl (fun _ _ h => (c_M_bad h).mono (by decide)) (fun r6 σ7 hf => ?_)
      exact run_ret hf rfl
    · refine run_seg (k := 8) (s' := (50, [some (vR 111), some (vI p1), some (vI r5)], [vI 0, vI 0, vI r5, vI (w32 (50 + p1)), vR 111, vR 111], σ)) rfl ?_
      refine run_callW (w := fun a => some (vI a)) (m := 337) (as := [vR 111, vI (w32 (50 + p1)), vI r5, vI 0, vI 0]) (pc := 53) (ls := [some (vR 111), some (vI p1), some (vI r5)]) (st' := [vR 111]) (σ := σ) hf rfl (fun _ _ h => (c_M_saysOne h).mono (by decide)) (fun r8 σ9 hf => ?_)
      refine run_seg (k := 1) (s' := (56, [some (vR 111), some (vI p1), some (vI r5)], [], upS σ9 111 74 r8)) rfl ?_
      refine run_let (fun σ10 => (56, [some (vR 111), some (vI p1), some (vI r5)], [], σ10)) hf (fun σ10 hf => ?_)
      refine run_seg (k := 1) (s' := (57, [some (vR 111), some (vI p1), some (vI r5)], [vR 111], σ10)) rfl ?_
      refine run_callV (m := 223) (as := [vR 111]) (pc := 60) (ls := [some (vR 111), some (vI p1), some (vI r5)]) (st' := []) (σ := σ10) hf rfl (fun _ h => (c_M_go h).mono (by decide)) (fun σ11 hf => ?_)
      refine run_seg (k := 1) (s' := (61, [some (vR 111), some (vI p1), some (vI r5)], [vI 1], σ11)) rfl ?_
      exact run_ret hf rfl
def f_M_readCompare_33 (l1 : Int) (σ : xSt) : Option (Int × xSt) :=
  xlet (σ 111 9) fun x6 =>
  xbR (f_M_go σ) fun σ7 =>
  xbW (f_M_readNumber 0 999 σ7) fun r8 σ9 =>
  if r8 = 0 then (some (0, σ9))
  else (xbW (f_M_saysOne (w32 (50 + l1)) 0 (σ9 111 13) x6 σ9) fun r10 σ11 =>
  xlet (upS σ11 111 74 r10) fun σ12 =>
  some (1, σ12))
/-- BentPennyModel.readCompare(I)Z -/
def f_M_readCompare (p1 : Int) (σ : xSt) : Option (Int × xSt) :=
  xbR (f_M_isSign 60 σ) fun r1 =>
  if r1 = 0 then (xbR (f_M_isSign 61 σ) fun r2 =>
  if r2 = 0 then (xbR (f_M_isSign 62 σ) fun r3 =>
  if r3 = 0 then (xbW (f_M_bad 1 σ) fun r4 σ5 =>
  some (xnb r4, σ5))
  else (f_M_readCompare_33 p1 σ))
  else (f_M_readCompare_33 p1 σ))
  else (f_M_readCompare_33 p1 σ)
theorem r_M_readCompare_33 {l1 : Int} {g2 : Option xV} {σ : xSt} {r : Int × xSt} (hf : f_M_readCompare_33 l1 σ = some r) : Run 3 12 2 kX12_readCompare (33, [some (vR 111), some (vI l1), g2], [], σ) (tIW r) := by
  unfold f_M_readCompare_33 at hf
  refine run_seg (k := 3) (s' := (38, [some (vR 111), some (vI l1), some (vI (σ 111 9))], [], σ)) rfl ?_
  refine run_let (fun x6 => (38, [some (vR 111), some (vI l1), some (vI x6)], [], σ)) hf (fun x6 hf => ?_)
  refine run_seg (k := 1) (s' := (39, [some (vR 111), some (vI l1), some (vI x6)], [vR 111], σ)) rfl ?_
  refine run_callV (m := 223) (as := [vR 111]) (pc := 42) (ls := [some (vR 111), some (vI l1), some (vI x6)]) (st' := []) (σ := σ) hf rfl (fun _ h => (c_M_go h).mono (by decide)) (fun σ7 hf => ?_)
  refine run_seg (k := 3) (s' := (47, [some (vR 111), some (vI l1), some (vI x6)], [vI 999, vI 0, vR 111], σ7)) rfl ?_
  refine run_callW (w := fun a => some (vI a)) (m := 230) (as := [vR 111, vI 0, vI 999]) (pc := 50) (ls := [some (vR 111), some (vI l1), some (vI x6)]) (st' := []) (σ := σ7) hf rfl (fun _ _ h => (c_M_readNumber h).mono (by decide)) (fun r8 σ9 hf => ?_)
  refine run_seg (k := 1) (s' := (if r8 = 0 then (53, [some (vR 111), some (vI l1), some (vI x6)], [], σ9) else (55, [some (vR 111), some (vI l1), some (vI x6)], [], σ9))) rfl ?_
  refine run_ite hf (fun _ hf => ?_) (fun _ hf => ?_)
  · refine run_seg (k := 1) (s' := (54, [some (vR 111), some (vI l1), some (vI x6)], [vI 0], σ9)) rfl ?_
    exact run_ret hf rfl
  · refine run_seg (k := 9) (s' := (67, [some (vR 111), some (vI l1), some (vI x6)], [vI x6, vI (σ9 111 13), vI 0, vI (w32 (50 + l1)), vR 111, vR 111], σ9)) rfl ?_
    refine run_callW (w := fun a => some (vI a)) (m := 337) (as := [vR 111, vI (w32 (50 + l1)), vI 0, vI (σ9 111 13), vI x6]) (pc := 70) (ls := [some (vR 111), some (vI l1), some (vI x6)]) (st' := [vR 111]) (σ := σ9) hf rfl (fun _ _ h => (c_M_saysOne h).mono (by decide)) (fun r10 σ11 hf => ?_)
    refine run_seg (k := 1) (s' := (73, [some (vR 111), some (vI l1), some (vI x6)], [], upS σ11 111 74 r10)) rfl ?_
    refine run_let (fun σ12 => (73, [some (vR 111), some (vI l1), some (vI x6)], [], σ12)) hf (fun σ12 hf => ?_)
    refine run_seg (k := 1) (s' := (74, [some (vR 111), some (vI l1), some (vI x6)], [vI 1], σ12)) rfl ?_
    exact run_ret hf rfl
theorem c_M_readCompare {p1 : Int} {σ : xSt} {r : Int × xSt} (hf : f_M_readCompare p1 σ = some r) : Call (3 + 1) 344 [vR 111, vI p1] σ (tIW r).1 (tIW r).2 := by
  unfold f_M_readCompare at hf
  refine call_of (own := 12) (rk := 2) (cd := kX12_readCompare) (ls := [some (vR 111), some (vI p1), none]) (rT := tIW) rfl rfl rfl rfl rfl ?_
  refine run_seg (k := 2) (s' := (3, [some (vR 111), some (vI p1), none], [vI 60, vR 111], σ)) rfl ?_
  refine run_callN (w := fun a => some (vI a)) (m := 227) (as := [vR 111, vI 60]) (pc := 6) (ls := [some (vR 111), some (vI p1), none]) (st' := []) (σ := σ) hf rfl (fun _ h => (c_M_isSign h).mono (by decide)) (fun r1 hf => ?_)
  refine run_seg (k := 1) (s' := (if r1 = 0 then (9, [some (vR 111), some (vI p1), none], [], σ) else (33, [some (vR 111), some (vI p1), none], [], σ))) rfl ?_
  refine run_ite hf (fun _ hf => ?_) (fun _ hf => ?_)
  · refine run_seg (k := 2) (s' := (12, [some (vR 111), some (vI p1), none], [vI 61, vR 111], σ)) rfl ?_
    refine run_callN (w := fun a => some (vI a)) (m := 227) (as := [vR 111, vI 61]) (pc := 15) (ls := [some (vR 111), some (vI p1), none]) (st' := []) (σ := σ) hf rfl (fun _ h => (c_M_isSign h).mono (by decide)) (fun r2 hf => ?_)
    refine run_seg (k := 1) (s' := (if r2 = 0 then (18, [some (vR 111), some (vI p1), none], [], σ) else (33, [some (vR 111), some (vI p1), none], [], σ))) rfl ?_
    refine run_ite hf (fun _ hf => ?_) (fun _ hf => ?_)
    · refine run_seg (k := 2) (s' := (21, [some (vR 111), some (vI p1), none], [vI 62, vR 111], σ)) rfl ?_
      refine run_callN (w := fun a => some (vI a)) (m := 227) (as := [vR 111, vI 62]) (pc := 24) (ls := [some (vR 111), some (vI p1), none]) (st' := []) (σ := σ) hf rfl (fun _ h => (c_M_isSign h).mono (by decide)) (fun r3 hf => ?_)
      refine run_seg (k := 1) (s' := (if r3 = 0 then (27, [some (vR 111), some (vI p1), none], [], σ) else (33, [some (vR 111), some (vI p1), none], [], σ))) rfl ?_
      refine run_ite hf (fun _ hf => ?_) (fun _ hf => ?_)
      · refine run_seg (k := 2) (s' := (29, [some (vR 111), some (vI p1), none], [vI 1, vR 111], σ)) rfl ?_
        refine run_callW (w := fun a => some (vI a)) (m := 229) (as := [vR 111, vI 1]) (pc := 32) (ls := [some (vR 111), some (vI p1), none]) (st' := []) (σ := σ) hf rfl (fun _ _ h => (c_M_bad h).mono (by decide)) (fun r4 σ5 hf => ?_)
        exact run_ret hf rfl
      · exact r_M_readCompare_33 hf
    · exact r_M_readCompare_33 hf
  · exact r_M_readCompare_33 hf
def f_M_readAnd_14 (q_M_readAnd : (xSt → Option (Int × xSt))) (q_M_readBracket : (xSt → Option (Int × xSt))) (q_M_readNot : (xSt → Option (Int × xSt))) (q_M_readOne : (xSt → Option (Int × xSt))) (q_M_readOr : (xSt → Option (Int × xSt))) : Nat → Int → xSt → Option (Int × xSt)
  | 0, _, _ => none
  | n + 1, l1, σ =>
    xbR (f_M_isWord 7 σ) fun r4 =>
    if r4 = 0 then (xlet (upS σ 111 74 l1) fun σ5 =>
    some (1, σ5))
    else (xbR (f_M_go σ) fun σ6 =>
    xbW (q_M_readOne σ6) fun r7 σ8 =>
    if r7 = 0 then (some (0, σ8))
    else (xbW (f_M_saysOne 2 l1 (σ8 111 74) 0 σ8) fun r9 σ10 =>
    f_M_readAnd_14 q_M_readAnd q_M_readBracket q_M_readNot q_M_readOne q_M_readOr n r9 σ10))
/-- BentPennyModel.readAnd()Z -/
def f0_M_readAnd (q_M_readAnd : (xSt → Option (Int × xSt))) (q_M_readBracket : (xSt → Option (Int × xSt))) (q_M_readNot : (xSt → Option (Int × xSt))) (q_M_readOne : (xSt → Option (Int × xSt))) (q_M_readOr : (xSt → Option (Int × xSt))) (σ : xSt) : Option (Int × xSt) :=
  xbW (q_M_readOne σ) fun r1 σ2 =>
  if r1 = 0 then (some (0, σ2))
  else (xlet (σ2 111 74) fun x3 =>
  f_M_readAnd_14 q_M_readAnd q_M_readBracket q_M_readNot q_M_readOne q_M_readOr 1000000 x3 σ2)
theorem r_M_readAnd_14 {d : Nat} (hd : 4 ≤ d) {q_M_readAnd : (xSt → Option (Int × xSt))} (hq_M_readAnd : ∀ {σ : xSt} {r : Int × xSt}, q_M_readAnd σ = some r → Call d 339 [vR 111] σ (tIW r).1 (tIW r).2) {q_M_readBracket : (xSt → Option (Int × xSt))} (hq_M_readBracket : ∀ {σ : xSt} {r : Int × xSt}, q_M_readBracket σ = some r → Call d 342 [vR 111] σ (tIW r).1 (tIW r).2) {q_M_readNot : (xSt → Option (Int × xSt))} (hq_M_readNot : ∀ {σ : xSt} {r : Int × xSt}, q_M_readNot σ = some r → Call d 341 [vR 111] σ (tIW r).1 (tIW r).2) {q_M_readOne : (xSt → Option (Int × xSt))} (hq_M_readOne : ∀ {σ : xSt} {r : Int × xSt}, q_M_readOne σ = some r → Call d 340 [vR 111] σ (tIW r).1 (tIW r).2) {q_M_readOr : (xSt → Option (Int × xSt))} (hq_M_readOr : ∀ {σ : xSt} {r : Int × xSt}, q_M_readOr σ = some r → Call d 338 [vR 111] σ (tIW r).1 (tIW r).2) : ∀ (n : Nat) {l1 : Int} {σ : xSt} {r : Int × xSt}, f_M_readAnd_14 q_M_readAnd q_M_readBracket q_M_readNot q_M_readOne q_M_readOr n l1 σ = some r → Run d 12 2 kX12_readAnd (14, [some (vR 111), some (vI l1)], [], σ) (tIW r) := by
  intro n
  induction n with
  | zero =>
    intro _ _ _ h
    exact nomatch (show (none : Option (Int × xSt)) = some _ from h)
  | succ n ih =>
    intro l1 σ r hf
    unfold f_M_readAnd_14 at hf
    refine run_seg (k := 2) (s' := (17, [some (vR 111), some (vI l1)], [vI 7, vR 111], σ)) rfl ?_
    refine run_callN (w := fun a => some (vI a)) (m := 226) (as := [vR 111, vI 7]) (pc := 20) (ls := [some (vR 111), some (vI l1)]) (st' := []) (σ := σ) hf rfl (fun _ h => (c_M_isWord h).mono (Nat.le_trans (by decide) hd)) (fun r4 hf => ?_)
    refine run_seg (k := 1) (s' := (if r4 = 0 then (51, [some (vR 111), some (vI l1)], [], σ) else (23, [some (vR 111), some (vI l1)], [], σ))) rfl ?_
    refine run_ite hf (fun _ hf => ?_) (fun _ hf => ?_)
    · refine run_seg (k := 3) (s' := (56, [some (vR 111), some (vI l1)], [], upS σ 111 74 l1)) rfl ?_
      refine run_let (fun σ5 => (56, [some (vR 111), some (vI l1)], [], σ5)) hf (fun σ5 hf => ?_)
      refine run_seg (k := 1) (s' := (57, [some (vR 111), some (vI l1)], [vI 1], σ5)) rfl ?_
      exact run_ret hf rfl
    · refine run_seg (k := 1) (s' := (24, [some (vR 111), some (vI l1)], [vR 111], σ)) rfl ?_
      refine run_callV (m := 223) (as := [vR 111]) (pc := 27) (ls := [some (vR 111), some (vI l1)]) (st' := []) (σ := σ) hf rfl (fun _ h => (c_M_go h).mono (Nat.le_trans (by decide) hd)) (fun σ6 hf => ?_)
      refine run_seg (k := 1) (s' := (28, [some (vR 111), some (vI l1)], [vR 111], σ6)) rfl ?_
      refine run_callW (w := fun a => some (vI a)) (m := 340) (as := [vR 111]) (pc := 31) (ls := [some (vR 111), some (vI l1)]) (st' := []) (σ := σ6) hf rfl (fun _ _ h => (hq_M_readOne h)) (fun r7 σ8 hf => ?_)
      refine run_seg (k := 1) (s' := (if r7 = 0 then (34, [some (vR 111), some (vI l1)], [], σ8) else (36, [some (vR 111), some (vI l1)], [], σ8))) rfl ?_
      refine run_ite hf (fun _ hf => ?_) (fun _ hf => ?_)
      · refine run_seg (k := 1) (s' := (35, [some (vR 111), some (vI l1)], [vI 0], σ8)) rfl ?_
        exact run_ret hf rfl
      · refine run_seg (k := 6) (s' := (44, [some (vR 111), some (vI l1)], [vI 0, vI (σ8 111 74), vI l1, vI 2, vR 111], σ8)) rfl ?_
        refine run_callW (w := fun a => some (vI a)) (m := 337) (as := [vR 111, vI 2, vI l1, vI (σ8 111 74), vI 0]) (pc := 47) (ls := [some (vR 111), some (vI l1)]) (st' := []) (σ := σ8) hf rfl (fun _ _ h => (c_M_saysOne h).mono (Nat.le_trans (by decide) hd)) (fun r9 σ10 hf => ?_)
        refine run_seg (k := 2) (s' := (14, [some (vR 111), some (vI r9)], [], σ10)) rfl ?_
        exact ih hf
theorem c0_M_readAnd {d : Nat} (hd : 4 ≤ d) {q_M_readAnd : (xSt → Option (Int × xSt))} (hq_M_readAnd : ∀ {σ : xSt} {r : Int × xSt}, q_M_readAnd σ = some r → Call d 339 [vR 111] σ (tIW r).1 (tIW r).2) {q_M_readBracket : (xSt → Option (Int × xSt))} (hq_M_readBracket : ∀ {σ : xSt} {r : Int × xSt}, q_M_readBracket σ = some r → Call d 342 [vR 111] σ (tIW r).1 (tIW r).2) {q_M_readNot : (xSt → Option (Int × xSt))} (hq_M_readNot : ∀ {σ : xSt} {r : Int × xSt}, q_M_readNot σ = some r → Call d 341 [vR 111] σ (tIW r).1 (tIW r).2) {q_M_readOne : (xSt → Option (Int × xSt))} (hq_M_readOne : ∀ {σ : xSt} {r : Int × xSt}, q_M_readOne σ = some r → Call d 340 [vR 111] σ (tIW r).1 (tIW r).2) {q_M_readOr : (xSt → Option (Int × xSt))} (hq_M_readOr : ∀ {σ : xSt} {r : Int × xSt}, q_M_readOr σ = some r → Call d 338 [vR 111] σ (tIW r).1 (tIW r).2) {σ : xSt} {r : Int × xSt} (hf : f0_M_readAnd q_M_readAnd q_M_readBracket q_M_readNot q_M_readOne q_M_readOr σ = some r) : Call (d + 1) 339 [vR 111] σ (tIW r).1 (tIW r).2 := by
  unfold f0_M_readAnd at hf
  refine call_of (own := 12) (rk := 2) (cd := kX12_readAnd) (ls := [some (vR 111), none]) (rT := tIW) rfl rfl rfl rfl rfl ?_
  refine run_seg (k := 1) (s' := (1, [some (vR 111), none], [vR 111], σ)) rfl ?_
  refine run_callW (w := fun a => some (vI a)) (m := 340) (as := [vR 111]) (pc := 4) (ls := [some (vR 111), none]) (st' := []) (σ := σ) hf rfl (fun _ _ h => (hq_M_readOne h)) (fun r1 σ2 hf => ?_)
  refine run_seg (k := 1) (s' := (if r1 = 0 then (7, [some (vR 111), none], [], σ2) else (9, [some (vR 111), none], [], σ2))) rfl ?_
  refine run_ite hf (fun _ hf => ?_) (fun _ hf => ?_)
  · refine run_seg (k := 1) (s' := (8, [some (vR 111), none], [vI 0], σ2)) rfl ?_
    exact run_ret hf rfl
  · refine run_seg (k := 3) (s' := (14, [some (vR 111), some (vI (σ2 111 74))], [], σ2)) rfl ?_
    refine run_let (fun x3 => (14, [some (vR 111), some (vI x3)], [], σ2)) hf (fun x3 hf => ?_)
    exact r_M_readAnd_14 hd hq_M_readAnd hq_M_readBracket hq_M_readNot hq_M_readOne hq_M_readOr 1000000 hf
/-- BentPennyModel.readBracket()Z -/
def f0_M_readBracket (q_M_readAnd : (xSt → Option (Int × xSt))) (q_M_readBracket : (xSt → Option (Int × xSt))) (q_M_readNot : (xSt → Option (Int × xSt))) (q_M_readOne : (xSt → Option (Int × xSt))) (q_M_readOr : (xSt → Option (Int × xSt))) (σ : xSt) : Option (Int × xSt) :=
  xbW (q_M_readOr σ) fun r1 σ2 =>
  if r1 = 0 then (some (0, σ2))
  else (xbW (f_M_readSign 41 σ2) fun r3 σ4 =>
  some (xnb r3, σ4))
theorem c0_M_readBracket {d : Nat} (hd : 4 ≤ d) {q_M_readAnd : (xSt → Option (Int × xSt))} (hq_M_readAnd : ∀ {σ : xSt} {r : Int × xSt}, q_M_readAnd σ = some r → Call d 339 [vR 111] σ (tIW r).1 (tIW r).2) {q_M_readBracket : (xSt → Option (Int × xSt))} (hq_M_readBracket : ∀ {σ : xSt} {r : Int × xSt}, q_M_readBracket σ = some r → Call d 342 [vR 111] σ (tIW r).1 (tIW r).2) {q_M_readNot : (xSt → Option (Int × xSt))} (hq_M_readNot : ∀ {σ : xSt} {r : Int × xSt}, q_M_readNot σ = some r → Call d 341 [vR 111] σ (tIW r).1 (tIW r).2) {q_M_readOne : (xSt → Option (Int × xSt))} (hq_M_readOne : ∀ {σ : xSt} {r : Int × xSt}, q_M_readOne σ = some r → Call d 340 [vR 111] σ (tIW r).1 (tIW r).2) {q_M_readOr : (xSt → Option (Int × xSt))} (hq_M_readOr : ∀ {σ : xSt} {r : Int × xSt}, q_M_readOr σ = some r → Call d 338 [vR 111] σ (tIW r).1 (tIW r).2) {σ : xSt} {r : Int × xSt} (hf : f0_M_readBracket q_M_readAnd q_M_readBracket q_M_readNot q_M_readOne q_M_readOr σ = some r) : Call (d + 1) 342 [vR 111] σ (tIW r).1 (tIW r).2 := by
  unfold f0_M_readBracket at hf
  refine call_of (own := 12) (rk := 2) (cd := kX12_readBracket) (ls := [some (vR 111)]) (rT := tIW) rfl rfl rfl rfl rfl ?_
  refine run_seg (k := 1) (s' := (1, [some (vR 111)], [vR 111], σ)) rfl ?_
  refine run_callW (w := fun a => some (vI a)) (m := 338) (as := [vR 111]) (pc := 4) (ls := [some (vR 111)]) (st' := []) (σ := σ) hf rfl (fun _ _ h => (hq_M_readOr h)) (fun r1 σ2 hf => ?_)
  refine run_seg (k := 1) (s' := (if r1 = 0 then (7, [some (vR 111)], [], σ2) else (9, [some (vR 111)], [], σ2))) rfl ?_
  refine run_ite hf (fun _ hf => ?_) (fun _ hf => ?_)
  · refine run_seg (k := 1) (s' := (8, [some (vR 111)], [vI 0], σ2)) rfl ?_
    exact run_ret hf rfl
  · refine run_seg (k := 2) (s' := (12, [some (vR 111)], [vI 41, vR 111], σ2)) rfl ?_
    refine run_callW (w := fun a => some (vI a)) (m := 231) (as := [vR 111, vI 41]) (pc := 15) (ls := [some (vR 111)]) (st' := []) (σ := σ2) hf rfl (fun _ _ h => (c_M_readSign h).mono (Nat.le_trans (by decide) hd)) (fun r3 σ4 hf => ?_)
    exact run_ret hf rfl
/-- BentPennyModel.readNot()Z -/
def f0_M_readNot (q_M_readAnd : (xSt → Option (Int × xSt))) (q_M_readBracket : (xSt → Option (Int × xSt))) (q_M_readNot : (xSt → Option (Int × xSt))) (q_M_readOne : (xSt → Option (Int × xSt))) (q_M_readOr : (xSt → Option (Int × xSt))) (σ : xSt) : Option (Int × xSt) :=
  xbW (q_M_readOne σ) fun r1 σ2 =>
  if r1 = 0 then (some (0, σ2))
  else (xbW (f_M_saysOne 1 (σ2 111 74) 0 0 σ2) fun r3 σ4 =>
  xlet (upS σ4 111 74 r3) fun σ5 =>
  some (1, σ5))
theorem c0_M_readNot {d : Nat} (hd : 4 ≤ d) {q_M_readAnd : (xSt → Option (Int × xSt))} (hq_M_readAnd : ∀ {σ : xSt} {r : Int × xSt}, q_M_readAnd σ = some r → Call d 339 [vR 111] σ (tIW r).1 (tIW r).2) {q_M_readBracket : (xSt → Option (Int × xSt))} (hq_M_readBracket : ∀ {σ : xSt} {r : Int × xSt}, q_M_readBracket σ = some r → Call d 342 [vR 111] σ (tIW r).1 (tIW r).2) {q_M_readNot : (xSt → Option (Int × xSt))} (hq_M_readNot : ∀ {σ : xSt} {r : Int × xSt}, q_M_readNot σ = some r → Call d 341 [vR 111] σ (tIW r).1 (tIW r).2) {q_M_readOne : (xSt → Option (Int × xSt))} (hq_M_readOne : ∀ {σ : xSt} {r : Int × xSt}, q_M_readOne σ = some r → Call d 340 [vR 111] σ (tIW r).1 (tIW r).2) {q_M_readOr : (xSt → Option (Int × xSt))} (hq_M_readOr : ∀ {σ : xSt} {r : Int × xSt}, q_M_readOr σ = some r → Call d 338 [vR 111] σ (tIW r).1 (tIW r).2) {σ : xSt} {r : Int × xSt} (hf : f0_M_readNot q_M_readAnd q_M_readBracket q_M_readNot q_M_readOne q_M_readOr σ = some r) : Call (d + 1) 341 [vR 111] σ (tIW r).1 (tIW r).2 := by
  unfold f0_M_readNot at hf
  refine call_of (own := 12) (rk := 2) (cd := kX12_readNot) (ls := [some (vR 111)]) (rT := tIW) rfl rfl rfl rfl rfl ?_
  refine run_seg (k := 1) (s' := (1, [some (vR 111)], [vR 111], σ)) rfl ?_
  refine run_callW (w := fun a => some (vI a)) (m := 340) (as := [vR 111]) (pc := 4) (ls := [some (vR 111)]) (st' := []) (σ := σ) hf rfl (fun _ _ h => (hq_M_readOne h)) (fun r1 σ2 hf => ?_)
  refine run_seg (k := 1) (s' := (if r1 = 0 then (7, [some (vR 111)], [], σ2) else (9, [some (vR 111)], [], σ2))) rfl ?_
  refine run_ite hf (fun _ hf => ?_) (fun _ hf => ?_)
  · refine run_seg (k := 1) (s' := (8, [some (vR 111)], [vI 0], σ2)) rfl ?_
    exact run_ret hf rfl
  · refine run_seg (k := 7) (s' := (18, [some (vR 111)], [vI 0, vI 0, vI (σ2 111 74), vI 1, vR 111, vR 111], σ2)) rfl ?_
    refine run_callW (w := fun a => some (vI a)) (m := 337) (as := [vR 111, vI 1, vI (σ2 111 74), vI 0, vI 0]) (pc := 21) (ls := [some (vR 111)]) (st' := [vR 111]) (σ := σ2) hf rfl (fun _ _ h => (c_M_saysOne h).mono (Nat.le_trans (by decide) hd)) (fun r3 σ4 hf => ?_)
    refine run_seg (k := 1) (s' := (24, [some (vR 111)], [], upS σ4 111 74 r3)) rfl ?_
    refine run_let (fun σ5 => (24, [some (vR 111)], [], σ5)) hf (fun σ5 hf => ?_)
    refine run_seg (k := 1) (s' := (25, [some (vR 111)], [vI 1], σ5)) rfl ?_
    exact run_ret hf rfl
def f_M_readOne_64 (q_M_readAnd : (xSt → Option (Int × xSt))) (q_M_readBracket : (xSt → Option (Int × xSt))) (q_M_readNot : (xSt → Option (Int × xSt))) (q_M_readOne : (xSt → Option (Int × xSt))) (q_M_readOr : (xSt → Option (Int × xSt))) (σ : xSt) : Option (Int × xSt) :=
  xbW (f_M_bad 4 σ) fun r17 σ18 =>
  some (xnb r17, σ18)
def f_M_readOne_172 (q_M_readAnd : (xSt → Option (Int × xSt))) (q_M_readBracket : (xSt → Option (Int × xSt))) (q_M_readNot : (xSt → Option (Int × xSt))) (q_M_readOne : (xSt → Option (Int × xSt))) (q_M_readOr : (xSt → Option (Int × xSt))) (l3 : Int) (σ : xSt) : Option (Int × xSt) :=
  xlet (upS σ 111 73 (w32 ((σ 111 73) - 1))) fun σ19 =>
  some (xnb l3, σ19)
def f_M_readOne_134 (q_M_readAnd : (xSt → Option (Int × xSt))) (q_M_readBracket : (xSt → Option (Int × xSt))) (q_M_readNot : (xSt → Option (Int × xSt))) (q_M_readOne : (xSt → Option (Int × xSt))) (q_M_readOr : (xSt → Option (Int × xSt))) (l2 : Int) (l3 : Int) (σ : xSt) : Option (Int × xSt) :=
  xbW (f_M_saysOne (w32 (50 + l2)) 0 0 0 σ) fun r20 σ21 =>
  xlet (upS σ21 111 74 r20) fun σ22 =>
  f_M_readOne_172 q_M_readAnd q_M_readBracket q_M_readNot q_M_readOne q_M_readOr l3 σ22
def f_M_readOne_171 (q_M_readAnd : (xSt → Option (Int × xSt))) (q_M_readBracket : (xSt → Option (Int × xSt))) (q_M_readNot : (xSt → Option (Int × xSt))) (q_M_readOne : (xSt → Option (Int × xSt))) (q_M_readOr : (xSt → Option (Int × xSt))) (s0 : Int) (σ : xSt) : Option (Int × xSt) :=
  f_M_readOne_172 q_M_readAnd q_M_readBracket q_M_readNot q_M_readOne q_M_readOr s0 σ
def f_M_readOne_46 (q_M_readAnd : (xSt → Option (Int × xSt))) (q_M_readBracket : (xSt → Option (Int × xSt))) (q_M_readNot : (xSt → Option (Int × xSt))) (q_M_readOne : (xSt → Option (Int × xSt))) (q_M_readOr : (xSt → Option (Int × xSt))) (l1 : Int) (l2 : Int) (σ : xSt) : Option (Int × xSt) :=
  if σ 111 72 = 20 then (f_M_readOne_64 q_M_readAnd q_M_readBracket q_M_readNot q_M_readOne q_M_readOr σ)
  else (if σ 111 73 = 8 then (f_M_readOne_64 q_M_readAnd q_M_readBracket q_M_readNot q_M_readOne q_M_readOr σ)
  else (xlet (upS σ 111 72 (w32 ((σ 111 72) + 1))) fun σ6 =>
  xlet (upS σ6 111 73 (w32 ((σ6 111 73) + 1))) fun σ7 =>
  xbR (f_M_go σ7) fun σ8 =>
  if l1 = 0 then (if l2 = 8 then (xbW (q_M_readNot σ8) fun r9 σ10 =>
  f_M_readOne_172 q_M_readAnd q_M_readBracket q_M_readNot q_M_readOne q_M_readOr r9 σ10)
  else (if l2 = 10 then (f_M_readOne_134 q_M_readAnd q_M_readBracket q_M_readNot q_M_readOne q_M_readOr l2 1 σ8)
  else (if l2 = 11 then (f_M_readOne_134 q_M_readAnd q_M_readBracket q_M_readNot q_M_readOne q_M_readOr l2 1 σ8)
  else (if l2 = 9 then (xbW (f_M_readNamed l2 σ8) fun r11 σ12 =>
  f_M_readOne_171 q_M_readAnd q_M_readBracket q_M_readNot q_M_readOne q_M_readOr r11 σ12)
  else (xbW (f_M_readCompare l2 σ8) fun r13 σ14 =>
  f_M_readOne_171 q_M_readAnd q_M_readBracket q_M_readNot q_M_readOne q_M_readOr r13 σ14)))))
  else (xbW (q_M_readBracket σ8) fun r15 σ16 =>
  f_M_readOne_172 q_M_readAnd q_M_readBracket q_M_readNot q_M_readOne q_M_readOr r15 σ16)))
def f_M_readOne_30 (q_M_readAnd : (xSt → Option (Int × xSt))) (q_M_readBracket : (xSt → Option (Int × xSt))) (q_M_readNot : (xSt → Option (Int × xSt))) (q_M_readOne : (xSt → Option (Int × xSt))) (q_M_readOr : (xSt → Option (Int × xSt))) (l1 : Int) (l2 : Int) (σ : xSt) : Option (Int × xSt) :=
  if l1 = 0 then (if 13 < l2 then (xbW (f_M_bad 1 σ) fun r4 σ5 =>
  some (xnb r4, σ5))
  else (f_M_readOne_46 q_M_readAnd q_M_readBracket q_M_readNot q_M_readOne q_M_readOr l1 l2 σ))
  else (f_M_readOne_46 q_M_readAnd q_M_readBracket q_M_readNot q_M_readOne q_M_readOr l1 l2 σ)
def f_M_readOne_10 (q_M_readAnd : (xSt → Option (Int × xSt))) (q_M_readBracket : (xSt → Option (Int × xSt))) (q_M_readNot : (xSt → Option (Int × xSt))) (q_M_readOne : (xSt → Option (Int × xSt))) (q_M_readOr : (xSt → Option (Int × xSt))) : Nat → Int → Int → xSt → Option (Int × xSt)
  | 0, _, _, _ => none
  | n + 1, l1, l2, σ =>
    if 13 < l2 then (f_M_readOne_30 q_M_readAnd q_M_readBracket q_M_readNot q_M_readOne q_M_readOr l1 l2 σ)
    else (xbR (f_M_isWord l2 σ) fun r2 =>
    if r2 = 0 then (xlet (w32 (l2 + 1)) fun x3 =>
    f_M_readOne_10 q_M_readAnd q_M_readBracket q_M_readNot q_M_readOne q_M_readOr n l1 x3 σ)
    else (f_M_readOne_30 q_M_readAnd q_M_readBracket q_M_readNot q_M_readOne q_M_readOr l1 l2 σ))
/-- BentPennyModel.readOne()Z -/
def f0_M_readOne (q_M_readAnd : (xSt → Option (Int × xSt))) (q_M_readBracket : (xSt → Option (Int × xSt))) (q_M_readNot : (xSt → Option (Int × xSt))) (q_M_readOne : (xSt → Option (Int × xSt))) (q_M_readOr : (xSt → Option (Int × xSt))) (σ : xSt) : Option (Int × xSt) :=
  xbR (f_M_isSign 40 σ) fun r1 =>
  f_M_readOne_10 q_M_readAnd q_M_readBracket q_M_readNot q_M_readOne q_M_readOr 1000000 r1 8 σ
theorem r_M_readOne_64 {d : Nat} (hd : 4 ≤ d) {q_M_readAnd : (xSt → Option (Int × xSt))} (hq_M_readAnd : ∀ {σ : xSt} {r : Int × xSt}, q_M_readAnd σ = some r → Call d 339 [vR 111] σ (tIW r).1 (tIW r).2) {q_M_readBracket : (xSt → Option (Int × xSt))} (hq_M_readBracket : ∀ {σ : xSt} {r : Int × xSt}, q_M_readBracket σ = some r → Call d 342 [vR 111] σ (tIW r).1 (tIW r).2) {q_M_readNot : (xSt → Option (Int × xSt))} (hq_M_readNot : ∀ {σ : xSt} {r : Int × xSt}, q_M_readNot σ = some r → Call d 341 [vR 111] σ (tIW r).1 (tIW r).2) {q_M_readOne : (xSt → Option (Int × xSt))} (hq_M_readOne : ∀ {σ : xSt} {r : Int × xSt}, q_M_readOne σ = some r → Call d 340 [vR 111] σ (tIW r).1 (tIW r).2) {q_M_readOr : (xSt → Option (Int × xSt))} (hq_M_readOr : ∀ {σ : xSt} {r : Int × xSt}, q_M_readOr σ = some r → Call d 338 [vR 111] σ (tIW r).1 (tIW r).2) {g1 : Option xV} {g2 : Option xV} {g3 : Option xV} {σ : xSt} {r : Int × xSt} (hf : f_M_readOne_64 q_M_readAnd q_M_readBracket q_M_readNot q_M_readOne q_M_readOr σ = some r) : Run d 12 2 kX12_readOne (64, [some (vR 111), g1, g2, g3], [], σ) (tIW r) := by
  unfold f_M_readOne_64 at hf
  refine run_seg (k := 2) (s' := (66, [some (vR 111), g1, g2, g3], [vI 4, vR 111], σ)) rfl ?_
  refine run_callW (w := fun a => some (vI a)) (m := 229) (as := [vR 111, vI 4]) (pc := 69) (ls := [some (vR 111), g1, g2, g3]) (st' := []) (σ := σ) hf rfl (fun _ _ h => (c_M_bad h).mono (Nat.le_trans (by decide) hd)) (fun r17 σ18 hf => ?_)
  exact run_ret hf rfl
theorem r_M_readOne_172 {d : Nat} (hd : 4 ≤ d) {q_M_readAnd : (xSt → Option (Int × xSt))} (hq_M_readAnd : ∀ {σ : xSt} {r : Int × xSt}, q_M_readAnd σ = some r → Call d 339 [vR 111] σ (tIW r).1 (tIW r).2) {q_M_readBracket : (xSt → Option (Int × xSt))} (hq_M_readBracket : ∀ {σ : xSt} {r : Int × xSt}, q_M_readBracket σ = some r → Call d 342 [vR 111] σ (tIW r).1 (tIW r).2) {q_M_readNot : (xSt → Option (Int × xSt))} (hq_M_readNot : ∀ {σ : xSt} {r : Int × xSt}, q_M_readNot σ = some r → Call d 341 [vR 111] σ (tIW r).1 (tIW r).2) {q_M_readOne : (xSt → Option (Int × xSt))} (hq_M_readOne : ∀ {σ : xSt} {r : Int × xSt}, q_M_readOne σ = some r → Call d 340 [vR 111] σ (tIW r).1 (tIW r).2) {q_M_readOr : (xSt → Option (Int × xSt))} (hq_M_readOr : ∀ {σ : xSt} {r : Int × xSt}, q_M_readOr σ = some r → Call d 338 [vR 111] σ (tIW r).1 (tIW r).2) {l3 : Int} {g1 : Option xV} {g2 : Option xV} {σ : xSt} {r : Int × xSt} (hf : f_M_readOne_172 q_M_readAnd q_M_readBracket q_M_readNot q_M_readOne q_M_readOr l3 σ = some r) : Run d 12 2 kX12_readOne (172, [some (vR 111), g1, g2, some (vI l3)], [], σ) (tIW r) := by
  unfold f_M_readOne_172 at hf
  refine run_seg (k := 6) (s' := (182, [some (vR 111), g1, g2, some (vI l3)], [], upS σ 111 73 (w32 ((σ 111 73) - 1)))) rfl ?_
  refine run_let (fun σ19 => (182, [some (vR 111), g1, g2, some (vI l3)], [], σ19)) hf (fun σ19 hf => ?_)
  refine run_seg (k := 1) (s' := (183, [some (vR 111), g1, g2, some (vI l3)], [vI l3], σ19)) rfl ?_
  exact run_ret hf rfl
theorem r_M_readOne_134 {d : Nat} (hd : 4 ≤ d) {q_M_readAnd : (xSt → Option (Int × xSt))} (hq_M_readAnd : ∀ {σ : xSt} {r : Int × xSt}, q_M_readAnd σ = some r → Call d 339 [vR 111] σ (tIW r).1 (tIW r).2) {q_M_readBracket : (xSt → Option (Int × xSt))} (hq_M_readBracket : ∀ {σ : xSt} {r : Int × xSt}, q_M_readBracket σ = some r → Call d 342 [vR 111] σ (tIW r).1 (tIW r).2) {q_M_readNot : (xSt → Option (Int × xSt))} (hq_M_readNot : ∀ {σ : xSt} {r : Int × xSt}, q_M_readNot σ = some r → Call d 341 [vR 111] σ (tIW r).1 (tIW r).2) {q_M_readOne : (xSt → Option (Int × xSt))} (hq_M_readOne : ∀ {σ : xSt} {r : Int × xSt}, q_M_readOne σ = some r → Call d 340 [vR 111] σ (tIW r).1 (tIW r).2) {q_M_readOr : (xSt → Option (Int × xSt))} (hq_M_readOr : ∀ {σ : xSt} {r : Int × xSt}, q_M_readOr σ = some r → Call d 338 [vR 111] σ (tIW r).1 (tIW r).2) {l2 : Int} {l3 : Int} {g1 : Option xV} {σ : xSt} {r : Int × xSt} (hf : f_M_readOne_134 q_M_readAnd q_M_readBracket q_M_readNot q_M_readOne q_M_readOr l2 l3 σ = some r) : Run d 12 2 kX12_readOne (134, [some (vR 111), g1, some (vI l2), some (vI l3)], [], σ) (tIW r) := by
  unfold f_M_readOne_134 at hf
  refine run_seg (k := 8) (s' := (143, [some (vR 111), g1, some (vI l2), some (vI l3)], [vI 0, vI 0, vI 0, vI (w32 (50 + l2)), vR 111, vR 111], σ)) rfl ?_
  refine run_callW (w := fun a => some (vI a)) (m := 337) (as := [vR 111, vI (w32 (50 + l2)), vI 0, vI 0, vI 0]) (pc := 146) (ls := [some (vR 111), g1, some (vI l2), some (vI l3)]) (st' := [vR 111]) (σ := σ) hf rfl (fun _ _ h => (c_M_saysOne h).mono (Nat.le_trans (by decide) hd)) (fun r20 σ21 hf => ?_)
  refine run_seg (k := 1) (s' := (149, [some (vR 111), g1, some (vI l2), some (vI l3)], [], upS σ21 111 74 r20)) rfl ?_
  refine run_let (fun σ22 => (149, [some (vR 111), g1, some (vI l2), some (vI l3)], [], σ22)) hf (fun σ22 hf => ?_)
  refine run_seg (k := 1) (s' := (172, [some (vR 111), g1, some (vI l2), some (vI l3)], [], σ22)) rfl ?_
  exact r_M_readOne_172 hd hq_M_readAnd hq_M_readBracket hq_M_readNot hq_M_readOne hq_M_readOr hf
theorem r_M_readOne_171 {d : Nat} (hd : 4 ≤ d) {q_M_readAnd : (xSt → Option (Int × xSt))} (hq_M_readAnd : ∀ {σ : xSt} {r : Int × xSt}, q_M_readAnd σ = some r → Call d 339 [vR 111] σ (tIW r).1 (tIW r).2) {q_M_readBracket : (xSt → Option (Int × xSt))} (hq_M_readBracket : ∀ {σ : xSt} {r : Int × xSt}, q_M_readBracket σ = some r → Call d 342 [vR 111] σ (tIW r).1 (tIW r).2) {q_M_readNot : (xSt → Option (Int × xSt))} (hq_M_readNot : ∀ {σ : xSt} {r : Int × xSt}, q_M_readNot σ = some r → Call d 341 [vR 111] σ (tIW r).1 (tIW r).2) {q_M_readOne : (xSt → Option (Int × xSt))} (hq_M_readOne : ∀ {σ : xSt} {r : Int × xSt}, q_M_readOne σ = some r → Call d 340 [vR 111] σ (tIW r).1 (tIW r).2) {q_M_readOr : (xSt → Option (Int × xSt))} (hq_M_readOr : ∀ {σ : xSt} {r : Int × xSt}, q_M_readOr σ = some r → Call d 338 [vR 111] σ (tIW r).1 (tIW r).2) {s0 : Int} {g1 : Option xV} {g2 : Option xV} {g3 : Option xV} {σ : xSt} {r : Int × xSt} (hf : f_M_readOne_171 q_M_readAnd q_M_readBracket q_M_readNot q_M_readOne q_M_readOr s0 σ = some r) : Run d 12 2 kX12_readOne (171, [some (vR 111), g1, g2, g3], [vI s0], σ) (tIW r) := by
  unfold f_M_readOne_171 at hf
  refine run_seg (k := 1) (s' := (172, [some (vR 111), g1, g2, some (vI s0)], [], σ)) rfl ?_
  exact r_M_readOne_172 hd hq_M_readAnd hq_M_readBracket hq_M_readNot hq_M_readOne hq_M_readOr hf
theorem r_M_readOne_46 {d : Nat} (hd : 4 ≤ d) {q_M_readAnd : (xSt → Option (Int × xSt))} (hq_M_readAnd : ∀ {σ : xSt} {r : Int × xSt}, q_M_readAnd σ = some r → Call d 339 [vR 111] σ (tIW r).1 (tIW r).2) {q_M_readBracket : (xSt → Option (Int × xSt))} (hq_M_readBracket : ∀ {σ : xSt} {r : Int × xSt}, q_M_readBracket σ = some r → Call d 342 [vR 111] σ (tIW r).1 (tIW r).2) {q_M_readNot : (xSt → Option (Int × xSt))} (hq_M_readNot : ∀ {σ : xSt} {r : Int × xSt}, q_M_readNot σ = some r → Call d 341 [vR 111] σ (tIW r).1 (tIW r).2) {q_M_readOne : (xSt → Option (Int × xSt))} (hq_M_readOne : ∀ {σ : xSt} {r : Int × xSt}, q_M_readOne σ = some r → Call d 340 [vR 111] σ (tIW r).1 (tIW r).2) {q_M_readOr : (xSt → Option (Int × xSt))} (hq_M_readOr : ∀ {σ : xSt} {r : Int × xSt}, q_M_readOr σ = some r → Call d 338 [vR 111] σ (tIW r).1 (tIW r).2) {l1 : Int} {l2 : Int} {g3 : Option xV} {σ : xSt} {r : Int × xSt} (hf : f_M_readOne_46 q_M_readAnd q_M_readBracket q_M_readNot q_M_readOne q_M_readOr l1 l2 σ = some r) : Run d 12 2 kX12_readOne (46, [some (vR 111), some (vI l1), some (vI l2), g3], [], σ) (tIW r) := by
  unfold f_M_readOne_46 at hf
  refine run_seg (k := 4) (s' := (if σ 111 72 = 20 then (64, [some (vR 111), some (vI l1), some (vI l2), g3], [], σ) else (55, [some (vR 111), some (vI l1), some (vI l2), g3], [], σ))) rfl ?_
  refine run_ite hf (fun _ hf => ?_) (fun _ hf => ?_)
  · exact r_M_readOne_64 hd hq_M_readAnd hq_M_readBracket hq_M_readNot hq_M_readOne hq_M_readOr hf
  · refine run_seg (k := 4) (s' := (if σ 111 73 = 8 then (64, [some (vR 111), some (vI l1), some (vI l2), g3], [], σ) else (70, [some (vR 111), some (vI l1), some (vI l2), g3], [], σ))) rfl ?_
    refine run_ite hf (fun _ hf => ?_) (fun _ hf => ?_)
    · exact r_M_readOne_64 hd hq_M_readAnd hq_M_readBracket hq_M_readNot hq_M_readOne hq_M_readOr hf
    · refine run_seg (k := 6) (s' := (80, [some (vR 111), some (vI l1), some (vI l2), g3], [], upS σ 111 72 (w32 ((σ 111 72) + 1)))) rfl ?_
      refine run_let (fun σ6 => (80, [some (vR 111), some (vI l1), some (vI l2), g3], [], σ6)) hf (fun σ6 hf => ?_)
      refine run_seg (k := 6) (s' := (90, [some (vR 111), some (vI l1), some (vI l2), g3], [], upS σ6 111 73 (w32 ((σ6 111 73) + 1)))) rfl ?_
      refine run_let (fun σ7 => (90, [some (vR 111), some (vI l1), some (vI l2), g3], [], σ7)) hf (fun σ7 hf => ?_)
      refine run_seg (k := 1) (s' := (91, [some (vR 111), some (vI l1), some (vI l2), g3], [vR 111], σ7)) rfl ?_
      refine run_callV (m := 223) (as := [vR 111]) (pc := 94) (ls := [some (vR 111), some (vI l1), some (vI l2), g3]) (st' := []) (σ := σ7) hf rfl (fun _ h => (c_M_go h).mono (Nat.le_trans (by decide) hd)) (fun σ8 hf => ?_)
      refine run_seg (k := 4) (s' := (if l1 = 0 then (108, [some (vR 111), some (vI l1), some (vI l2), some (vI 1)], [], σ8) else (100, [some (vR 111), some (vI l1), some (vI l2), some (vI 1)], [], σ8))) rfl ?_
      refine run_ite hf (fun _ hf => ?_) (fun _ hf => ?_)
      · refine run_seg (k := 3) (s' := (if l2 = 8 then (114, [some (vR 111), some (vI l1), some (vI l2), some (vI 1)], [], σ8) else (122, [some (vR 111), some (vI l1), some (vI l2), some (vI 1)], [], σ8))) rfl ?_
        refine run_ite hf (fun _ hf => ?_) (fun _ hf => ?_)
        · refine run_seg (k := 1) (s' := (115, [some (vR 111), some (vI l1), some (vI l2), some (vI 1)], [vR 111], σ8)) rfl ?_
          refine run_callW (w := fun a => some (vI a)) (m := 341) (as := [vR 111]) (pc := 118) (ls := [some (vR 111), some (vI l1), some (vI l2), some (vI 1)]) (st' := []) (σ := σ8) hf rfl (fun _ _ h => (hq_M_readNot h)) (fun r9 σ10 hf => ?_)
          refine run_seg (k := 2) (s' := (172, [some (vR 111), some (vI l1), some (vI l2), some (vI r9)], [], σ10)) rfl ?_
          exact r_M_readOne_172 hd hq_M_readAnd hq_M_readBracket hq_M_readNot hq_M_readOne hq_M_readOr hf
        · refine run_seg (k := 3) (s' := (if l2 = 10 then (134, [some (vR 111), some (vI l1), some (vI l2), some (vI 1)], [], σ8) else (128, [some (vR 111), some (vI l1), some (vI l2), some (vI 1)], [], σ8))) rfl ?_
          refine run_ite hf (fun _ hf => ?_) (fun _ hf => ?_)
          · exact r_M_readOne_134 hd hq_M_readAnd hq_M_readBracket hq_M_readNot hq_M_readOne hq_M_readOr hf
          · refine run_seg (k := 3) (s' := (if l2 = 11 then (134, [some (vR 111), some (vI l1), some (vI l2), some (vI 1)], [], σ8) else (152, [some (vR 111), some (vI l1), some (vI l2), some (vI 1)], [], σ8))) rfl ?_
            refine run_ite hf (fun _ hf => ?_) (fun _ hf => ?_)
            · exact r_M_readOne_134 hd hq_M_readAnd hq_M_readBracket hq_M_readNot hq_M_readOne hq_M_readOr hf
            · refine run_seg (k := 3) (s' := (if l2 = 9 then (158, [some (vR 111), some (vI l1), some (vI l2), some (vI 1)], [], σ8) else (166, [some (vR 111), some (vI l1), some (vI l2), some (vI 1)], [], σ8))) rfl ?_
              refine run_ite hf (fun _ hf => ?_) (fun _ hf => ?_)
              · refine run_seg (k := 2) (s' := (160, [some (vR 111), some (vI l1), some (vI l2), some (vI 1)], [vI l2, vR 111], σ8)) rfl ?_
                refine run_callW (w := fun a => some (vI a)) (m := 343) (as := [vR 111, vI l2]) (pc := 163) (ls := [some (vR 111), some (vI l1), some (vI l2), some (vI 1)]) (st' := []) (σ := σ8) hf rfl (fun _ _ h => (c_M_readNamed h).mono (Nat.le_trans (by decide) hd)) (fun r11 σ12 hf => ?_)
                refine run_seg (k := 1) (s' := (171, [some (vR 111), some (vI l1), some (vI l2), some (vI 1)], [vI r11], σ12)) rfl ?_
                exact r_M_readOne_171 hd hq_M_readAnd hq_M_readBracket hq_M_readNot hq_M_readOne hq_M_readOr hf
              · refine run_seg (k := 2) (s' := (168, [some (vR 111), some (vI l1), some (vI l2), some (vI 1)], [vI l2, vR 111], σ8)) rfl ?_
                refine run_callW (w := fun a => some (vI a)) (m := 344) (as := [vR 111, vI l2]) (pc := 171) (ls := [some (vR 111), some (vI l1), some (vI l2), some (vI 1)]) (st' := []) (σ := σ8) hf rfl (fun _ _ h => (c_M_readCompare h).mono (Nat.le_trans (by decide) hd)) (fun r13 σ14 hf => ?_)
                exact r_M_readOne_171 hd hq_M_readAnd hq_M_readBracket hq_M_readNot hq_M_readOne hq_M_readOr hf
      · refine run_seg (k := 1) (s' := (101, [some (vR 111), some (vI l1), some (vI l2), some (vI 1)], [vR 111], σ8)) rfl ?_
        refine run_callW (w := fun a => some (vI a)) (m := 342) (as := [vR 111]) (pc := 104) (ls := [some (vR 111), some (vI l1), some (vI l2), some (vI 1)]) (st' := []) (σ := σ8) hf rfl (fun _ _ h => (hq_M_readBracket h)) (fun r15 σ16 hf => ?_)
        refine run_seg (k := 2) (s' := (172, [some (vR 111), some (vI l1), some (vI l2), some (vI r15)], [], σ16)) rfl ?_
        exact r_M_readOne_172 hd hq_M_readAnd hq_M_readBracket hq_M_readNot hq_M_readOne hq_M_readOr hf
theorem r_M_readOne_30 {d : Nat} (hd : 4 ≤ d) {q_M_readAnd : (xSt → Option (Int × xSt))} (hq_M_readAnd : ∀ {σ : xSt} {r : Int × xSt}, q_M_readAnd σ = some r → Call d 339 [vR 111] σ (tIW r).1 (tIW r).2) {q_M_readBracket : (xSt → Option (Int × xSt))} (hq_M_readBracket : ∀ {σ : xSt} {r : Int × xSt}, q_M_readBracket σ = some r → Call d 342 [vR 111] σ (tIW r).1 (tIW r).2) {q_M_readNot : (xSt → Option (Int × xSt))} (hq_M_readNot : ∀ {σ : xSt} {r : Int × xSt}, q_M_readNot σ = some r → Call d 341 [vR 111] σ (tIW r).1 (tIW r).2) {q_M_readOne : (xSt → Option (Int × xSt))} (hq_M_readOne : ∀ {σ : xSt} {r : Int × xSt}, q_M_readOne σ = some r → Call d 340 [vR 111] σ (tIW r).1 (tIW r).2) {q_M_readOr : (xSt → Option (Int × xSt))} (hq_M_readOr : ∀ {σ : xSt} {r : Int × xSt}, q_M_readOr σ = some r → Call d 338 [vR 111] σ (tIW r).1 (tIW r).2) {l1 : Int} {l2 : Int} {g3 : Option xV} {σ : xSt} {r : Int × xSt} (hf : f_M_readOne_30 q_M_readAnd q_M_readBracket q_M_readNot q_M_readOne q_M_readOr l1 l2 σ = some r) : Run d 12 2 kX12_readOne (30, [some (vR 111), some (vI l1), some (vI l2), g3], [], σ) (tIW r) := by
  unfold f_M_readOne_30 at hf
  refine run_seg (k := 2) (s' := (if l1 = 0 then (34, [some (vR 111), some (vI l1), some (vI l2), g3], [], σ) else (46, [some (vR 111), some (vI l1), some (vI l2), g3], [], σ))) rfl ?_
  refine run_ite hf (fun _ hf => ?_) (fun _ hf => ?_)
  · refine run_seg (k := 3) (s' := (if 13 < l2 then (40, [some (vR 111), some (vI l1), some (vI l2), g3], [], σ) else (46, [some (vR 111), some (vI l1), some (vI l2), g3], [], σ))) rfl ?_
    refine run_ite hf (fun _ hf => ?_) (fun _ hf => ?_)
    · refine run_seg (k := 2) (s' := (42, [some (vR 111), some (vI l1), some (vI l2), g3], [vI 1, vR 111], σ)) rfl ?_
      refine run_callW (w := fun a => some (vI a)) (m := 229) (as := [vR 111, vI 1]) (pc := 45) (ls := [some (vR 111), some (vI l1), some (vI l2), g3]) (st' := []) (σ := σ) hf rfl (fun _ _ h => (c_M_bad h).mono (Nat.le_trans (by decide) hd)) (fun r4 σ5 hf => ?_)
      exact run_ret hf rfl
    · exact r_M_readOne_46 hd hq_M_readAnd hq_M_readBracket hq_M_readNot hq_M_readOne hq_M_readOr hf
  · exact r_M_readOne_46 hd hq_M_readAnd hq_M_readBracket hq_M_readNot hq_M_readOne hq_M_readOr hf
theorem r_M_readOne_10 {d : Nat} (hd : 4 ≤ d) {q_M_readAnd : (xSt → Option (Int × xSt))} (hq_M_readAnd : ∀ {σ : xSt} {r : Int × xSt}, q_M_readAnd σ = some r → Call d 339 [vR 111] σ (tIW r).1 (tIW r).2) {q_M_readBracket : (xSt → Option (Int × xSt))} (hq_M_readBracket : ∀ {σ : xSt} {r : Int × xSt}, q_M_readBracket σ = some r → Call d 342 [vR 111] σ (tIW r).1 (tIW r).2) {q_M_readNot : (xSt → Option (Int × xSt))} (hq_M_readNot : ∀ {σ : xSt} {r : Int × xSt}, q_M_readNot σ = some r → Call d 341 [vR 111] σ (tIW r).1 (tIW r).2) {q_M_readOne : (xSt → Option (Int × xSt))} (hq_M_readOne : ∀ {σ : xSt} {r : Int × xSt}, q_M_readOne σ = some r → Call d 340 [vR 111] σ (tIW r).1 (tIW r).2) {q_M_readOr : (xSt → Option (Int × xSt))} (hq_M_readOr : ∀ {σ : xSt} {r : Int × xSt}, q_M_readOr σ = some r → Call d 338 [vR 111] σ (tIW r).1 (tIW r).2) : ∀ (n : Nat) {l1 : Int} {l2 : Int} {g3 : Option xV} {σ : xSt} {r : Int × xSt}, f_M_readOne_10 q_M_readAnd q_M_readBracket q_M_readNot q_M_readOne q_M_readOr n l1 l2 σ = some r → Run d 12 2 kX12_readOne (10, [some (vR 111), some (vI l1), some (vI l2), g3], [], σ) (tIW r) := by
  intro n
  induction n with
  | zero =>
    intro _ _ _ _ _ h
    exact nomatch (show (none : Option (Int × xSt)) = some _ from h)
  | succ n ih =>
    intro l1 l2 g3 σ r hf
    unfold f_M_readOne_10 at hf
    refine run_seg (k := 3) (s' := (if 13 < l2 then (30, [some (vR 111), some (vI l1), some (vI l2), g3], [], σ) else (16, [some (vR 111), some (vI l1), some (vI l2), g3], [], σ))) rfl ?_
    refine run_ite hf (fun _ hf => ?_) (fun _ hf => ?_)
    · exact r_M_readOne_30 hd hq_M_readAnd hq_M_readBracket hq_M_readNot hq_M_readOne hq_M_readOr hf
    · refine run_seg (k := 2) (s' := (18, [some (vR 111), some (vI l1), some (vI l2), g3], [vI l2, vR 111], σ)) rfl ?_
      refine run_callN (w := fun a => some (vI a)) (m := 226) (as := [vR 111, vI l2]) (pc := 21) (ls := [some (vR 111), some (vI l1), some (vI l2), g3]) (st' := []) (σ := σ) hf rfl (fun _ h => (c_M_isWord h).mono (Nat.le_trans (by decide) hd)) (fun r2 hf => ?_)
      refine run_seg (k := 1) (s' := (if r2 = 0 then (24, [some (vR 111), some (vI l1), some (vI l2), g3], [], σ) else (30, [some (vR 111), some (vI l1), some (vI l2), g3], [], σ))) rfl ?_
      refine run_ite hf (fun _ hf => ?_) (fun _ hf => ?_)
      · refine run_seg (k := 1) (s' := (27, [some (vR 111), some (vI l1), some (vI (w32 (l2 + 1))), g3], [], σ)) rfl ?_
        refine run_let (fun x3 => (27, [some (vR 111), some (vI l1), some (vI x3), g3], [], σ)) hf (fun x3 hf => ?_)
        refine run_seg (k := 1) (s' := (10, [some (vR 111), some (vI l1), some (vI x3), g3], [], σ)) rfl ?_
        exact ih hf
      · exact r_M_readOne_30 hd hq_M_readAnd hq_M_readBracket hq_M_readNot hq_M_readOne hq_M_readOr hf
theorem c0_M_readOne {d : Nat} (hd : 4 ≤ d) {q_M_readAnd : (xSt → Option (Int × xSt))} (hq_M_readAnd : ∀ {σ : xSt} {r : Int × xSt}, q_M_readAnd σ = some r → Call d 339 [vR 111] σ (tIW r).1 (tIW r).2) {q_M_readBracket : (xSt → Option (Int × xSt))} (hq_M_readBracket : ∀ {σ : xSt} {r : Int × xSt}, q_M_readBracket σ = some r → Call d 342 [vR 111] σ (tIW r).1 (tIW r).2) {q_M_readNot : (xSt → Option (Int × xSt))} (hq_M_readNot : ∀ {σ : xSt} {r : Int × xSt}, q_M_readNot σ = some r → Call d 341 [vR 111] σ (tIW r).1 (tIW r).2) {q_M_readOne : (xSt → Option (Int × xSt))} (hq_M_readOne : ∀ {σ : xSt} {r : Int × xSt}, q_M_readOne σ = some r → Call d 340 [vR 111] σ (tIW r).1 (tIW r).2) {q_M_readOr : (xSt → Option (Int × xSt))} (hq_M_readOr : ∀ {σ : xSt} {r : Int × xSt}, q_M_readOr σ = some r → Call d 338 [vR 111] σ (tIW r).1 (tIW r).2) {σ : xSt} {r : Int × xSt} (hf : f0_M_readOne q_M_readAnd q_M_readBracket q_M_readNot q_M_readOne q_M_readOr σ = some r) : Call (d + 1) 340 [vR 111] σ (tIW r).1 (tIW r).2 := by
  unfold f0_M_readOne at hf
  refine call_of (own := 12) (rk := 2) (cd := kX12_readOne) (ls := [some (vR 111), none, none, none]) (rT := tIW) rfl rfl rfl rfl rfl ?_
  refine run_seg (k := 2) (s' := (3, [some (vR 111), none, none, none], [vI 40, vR 111], σ)) rfl ?_
  refine run_callN (w := fun a => some (vI a)) (m := 227) (as := [vR 111, vI 40]) (pc := 6) (ls := [some (vR 111), none, none, none]) (st' := []) (σ := σ) hf rfl (fun _ h => (c_M_isSign h).mono (Nat.le_trans (by decide) hd)) (fun r1 hf => ?_)
  refine run_seg (k := 3) (s' := (10, [some (vR 111), some (vI r1), some (vI 8), none], [], σ)) rfl ?_
  exact r_M_readOne_10 hd hq_M_readAnd hq_M_readBracket hq_M_readNot hq_M_readOne hq_M_readOr 1000000 hf
def f_M_readOr_14 (q_M_readAnd : (xSt → Option (Int × xSt))) (q_M_readBracket : (xSt → Option (Int × xSt))) (q_M_readNot : (xSt → Option (Int × xSt))) (q_M_readOne : (xSt → Option (Int × xSt))) (q_M_readOr : (xSt → Option (Int × xSt))) : Nat → Int → xSt → Option (Int × xSt)
  | 0, _, _ => none
  | n + 1, l1, σ =>
    xbR (f_M_isWord 6 σ) fun r4 =>
    if r4 = 0 then (xlet (upS σ 111 74 l1) fun σ5 =>
    some (1, σ5))
    else (xbR (f_M_go σ) fun σ6 =>
    xbW (q_M_readAnd σ6) fun r7 σ8 =>
    if r7 = 0 then (some (0, σ8))
    else (xbW (f_M_saysOne 3 l1 (σ8 111 74) 0 σ8) fun r9 σ10 =>
    f_M_readOr_14 q_M_readAnd q_M_readBracket q_M_readNot q_M_readOne q_M_readOr n r9 σ10))
/-- BentPennyModel.readOr()Z -/
def f0_M_readOr (q_M_readAnd : (xSt → Option (Int × xSt))) (q_M_readBracket : (xSt → Option (Int × xSt))) (q_M_readNot : (xSt → Option (Int × xSt))) (q_M_readOne : (xSt → Option (Int × xSt))) (q_M_readOr : (xSt → Option (Int × xSt))) (σ : xSt) : Option (Int × xSt) :=
  xbW (q_M_readAnd σ) fun r1 σ2 =>
  if r1 = 0 then (some (0, σ2))
  else (xlet (σ2 111 74) fun x3 =>
  f_M_readOr_14 q_M_readAnd q_M_readBracket q_M_readNot q_M_readOne q_M_readOr 1000000 x3 σ2)
theorem r_M_readOr_14 {d : Nat} (hd : 4 ≤ d) {q_M_readAnd : (xSt → Option (Int × xSt))} (hq_M_readAnd : ∀ {σ : xSt} {r : Int × xSt}, q_M_readAnd σ = some r → Call d 339 [vR 111] σ (tIW r).1 (tIW r).2) {q_M_readBracket : (xSt → Option (Int × xSt))} (hq_M_readBracket : ∀ {σ : xSt} {r : Int × xSt}, q_M_readBracket σ = some r → Call d 342 [vR 111] σ (tIW r).1 (tIW r).2) {q_M_readNot : (xSt → Option (Int × xSt))} (hq_M_readNot : ∀ {σ : xSt} {r : Int × xSt}, q_M_readNot σ = some r → Call d 341 [vR 111] σ (tIW r).1 (tIW r).2) {q_M_readOne : (xSt → Option (Int × xSt))} (hq_M_readOne : ∀ {σ : xSt} {r : Int × xSt}, q_M_readOne σ = some r → Call d 340 [vR 111] σ (tIW r).1 (tIW r).2) {q_M_readOr : (xSt → Option (Int × xSt))} (hq_M_readOr : ∀ {σ : xSt} {r : Int × xSt}, q_M_readOr σ = some r → Call d 338 [vR 111] σ (tIW r).1 (tIW r).2) : ∀ (n : Nat) {l1 : Int} {σ : xSt} {r : Int × xSt}, f_M_readOr_14 q_M_readAnd q_M_readBracket q_M_readNot q_M_readOne q_M_readOr n l1 σ = some r → Run d 12 2 kX12_readOr (14, [some (vR 111), some (vI l1)], [], σ) (tIW r) := by
  intro n
  induction n with
  | zero =>
    intro _ _ _ h
    exact nomatch (show (none : Option (Int × xSt)) = some _ from h)
  | succ n ih =>
    intro l1 σ r hf
    unfold f_M_readOr_14 at hf
    refine run_seg (k := 2) (s' := (17, [some (vR 111), some (vI l1)], [vI 6, vR 111], σ)) rfl ?_
    refine run_callN (w := fun a => some (vI a)) (m := 226) (as := [vR 111, vI 6]) (pc := 20) (ls := [some (vR 111), some (vI l1)]) (st' := []) (σ := σ) hf rfl (fun _ h => (c_M_isWord h).mono (Nat.le_trans (by decide) hd)) (fun r4 hf => ?_)
    refine run_seg (k := 1) (s' := (if r4 = 0 then (51, [some (vR 111), some (vI l1)], [], σ) else (23, [some (vR 111), some (vI l1)], [], σ))) rfl ?_
    refine run_ite hf (fun _ hf => ?_) (fun _ hf => ?_)
    · refine run_seg (k := 3) (s' := (56, [some (vR 111), some (vI l1)], [], upS σ 111 74 l1)) rfl ?_
      refine run_let (fun σ5 => (56, [some (vR 111), some (vI l1)], [], σ5)) hf (fun σ5 hf => ?_)
      refine run_seg (k := 1) (s' := (57, [some (vR 111), some (vI l1)], [vI 1], σ5)) rfl ?_
      exact run_ret hf rfl
    · refine run_seg (k := 1) (s' := (24, [some (vR 111), some (vI l1)], [vR 111], σ)) rfl ?_
      refine run_callV (m := 223) (as := [vR 111]) (pc := 27) (ls := [some (vR 111), some (vI l1)]) (st' := []) (σ := σ) hf rfl (fun _ h => (c_M_go h).mono (Nat.le_trans (by decide) hd)) (fun σ6 hf => ?_)
      refine run_seg (k := 1) (s' := (28, [some (vR 111), some (vI l1)], [vR 111], σ6)) rfl ?_
      refine run_callW (w := fun a => some (vI a)) (m := 339) (as := [vR 111]) (pc := 31) (ls := [some (vR 111), some (vI l1)]) (st' := []) (σ := σ6) hf rfl (fun _ _ h => (hq_M_readAnd h)) (fun r7 σ8 hf => ?_)
      refine run_seg (k := 1) (s' := (if r7 = 0 then (34, [some (vR 111), some (vI l1)], [], σ8) else (36, [some (vR 111), some (vI l1)], [], σ8))) rfl ?_
      refine run_ite hf (fun _ hf => ?_) (fun _ hf => ?_)
      · refine run_seg (k := 1) (s' := (35, [some (vR 111), some (vI l1)], [vI 0], σ8)) rfl ?_
        exact run_ret hf rfl
      · refine run_seg (k := 6) (s' := (44, [some (vR 111), some (vI l1)], [vI 0, vI (σ8 111 74), vI l1, vI 3, vR 111], σ8)) rfl ?_
        refine run_callW (w := fun a => some (vI a)) (m := 337) (as := [vR 111, vI 3, vI l1, vI (σ8 111 74), vI 0]) (pc := 47) (ls := [some (vR 111), some (vI l1)]) (st' := []) (σ := σ8) hf rfl (fun _ _ h => (c_M_saysOne h).mono (Nat.le_trans (by decide) hd)) (fun r9 σ10 hf => ?_)
        refine run_seg (k := 2) (s' := (14, [some (vR 111), some (vI r9)], [], σ10)) rfl ?_
        exact ih hf
theorem c0_M_readOr {d : Nat} (hd : 4 ≤ d) {q_M_readAnd : (xSt → Option (Int × xSt))} (hq_M_readAnd : ∀ {σ : xSt} {r : Int × xSt}, q_M_readAnd σ = some r → Call d 339 [vR 111] σ (tIW r).1 (tIW r).2) {q_M_readBracket : (xSt → Option (Int × xSt))} (hq_M_readBracket : ∀ {σ : xSt} {r : Int × xSt}, q_M_readBracket σ = some r → Call d 342 [vR 111] σ (tIW r).1 (tIW r).2) {q_M_readNot : (xSt → Option (Int × xSt))} (hq_M_readNot : ∀ {σ : xSt} {r : Int × xSt}, q_M_readNot σ = some r → Call d 341 [vR 111] σ (tIW r).1 (tIW r).2) {q_M_readOne : (xSt → Option (Int × xSt))} (hq_M_readOne : ∀ {σ : xSt} {r : Int × xSt}, q_M_readOne σ = some r → Call d 340 [vR 111] σ (tIW r).1 (tIW r).2) {q_M_readOr : (xSt → Option (Int × xSt))} (hq_M_readOr : ∀ {σ : xSt} {r : Int × xSt}, q_M_readOr σ = some r → Call d 338 [vR 111] σ (tIW r).1 (tIW r).2) {σ : xSt} {r : Int × xSt} (hf : f0_M_readOr q_M_readAnd q_M_readBracket q_M_readNot q_M_readOne q_M_readOr σ = some r) : Call (d + 1) 338 [vR 111] σ (tIW r).1 (tIW r).2 := by
  unfold f0_M_readOr at hf
  refine call_of (own := 12) (rk := 2) (cd := kX12_readOr) (ls := [some (vR 111), none]) (rT := tIW) rfl rfl rfl rfl rfl ?_
  refine run_seg (k := 1) (s' := (1, [some (vR 111), none], [vR 111], σ)) rfl ?_
  refine run_callW (w := fun a => some (vI a)) (m := 339) (as := [vR 111]) (pc := 4) (ls := [some (vR 111), none]) (st' := []) (σ := σ) hf rfl (fun _ _ h => (hq_M_readAnd h)) (fun r1 σ2 hf => ?_)
  refine run_seg (k := 1) (s' := (if r1 = 0 then (7, [some (vR 111), none], [], σ2) else (9, [some (vR 111), none], [], σ2))) rfl ?_
  refine run_ite hf (fun _ hf => ?_) (fun _ hf => ?_)
  · refine run_seg (k := 1) (s' := (8, [some (vR 111), none], [vI 0], σ2)) rfl ?_
    exact run_ret hf rfl
  · refine run_seg (k := 3) (s' := (14, [some (vR 111), some (vI (σ2 111 74))], [], σ2)) rfl ?_
    refine run_let (fun x3 => (14, [some (vR 111), some (vI x3)], [], σ2)) hf (fun x3 hf => ?_)
    exact r_M_readOr_14 hd hq_M_readAnd hq_M_readBracket hq_M_readNot hq_M_readOne hq_M_readOr 1000000 hf
def g_M_readAnd : Nat → (xSt → Option (Int × xSt)) × (xSt → Option (Int × xSt)) × (xSt → Option (Int × xSt)) × (xSt → Option (Int × xSt)) × (xSt → Option (Int × xSt))
  | 0 => ((fun _ => none), (fun _ => none), (fun _ => none), (fun _ => none), (fun _ => none))
  | n + 1 => ((fun  σ => f0_M_readAnd ((g_M_readAnd n).1) ((g_M_readAnd n).2.1) ((g_M_readAnd n).2.2.1) ((g_M_readAnd n).2.2.2.1) ((g_M_readAnd n).2.2.2.2)  σ), (fun  σ => f0_M_readBracket ((g_M_readAnd n).1) ((g_M_readAnd n).2.1) ((g_M_readAnd n).2.2.1) ((g_M_readAnd n).2.2.2.1) ((g_M_readAnd n).2.2.2.2)  σ), (fun  σ => f0_M_readNot ((g_M_readAnd n).1) ((g_M_readAnd n).2.1) ((g_M_readAnd n).2.2.1) ((g_M_readAnd n).2.2.2.1) ((g_M_readAnd n).2.2.2.2)  σ), (fun  σ => f0_M_readOne ((g_M_readAnd n).1) ((g_M_readAnd n).2.1) ((g_M_readAnd n).2.2.1) ((g_M_readAnd n).2.2.2.1) ((g_M_readAnd n).2.2.2.2)  σ), (fun  σ => f0_M_readOr ((g_M_readAnd n).1) ((g_M_readAnd n).2.1) ((g_M_readAnd n).2.2.1) ((g_M_readAnd n).2.2.2.1) ((g_M_readAnd n).2.2.2.2)  σ))
def f_M_readAnd (n : Nat)  (σ : xSt) : Option (Int × xSt) := (g_M_readAnd n).1  σ
def f_M_readBracket (n : Nat)  (σ : xSt) : Option (Int × xSt) := (g_M_readAnd n).2.1  σ
def f_M_readNot (n : Nat)  (σ : xSt) : Option (Int × xSt) := (g_M_readAnd n).2.2.1  σ
def f_M_readOne (n : Nat)  (σ : xSt) : Option (Int × xSt) := (g_M_readAnd n).2.2.2.1  σ
def f_M_readOr (n : Nat)  (σ : xSt) : Option (Int × xSt) := (g_M_readAnd n).2.2.2.2  σ
theorem hg_M_readAnd : ∀ n, (∀ {σ : xSt} {r : Int × xSt}, f_M_readAnd n σ = some r → Call (4 + n) 339 [vR 111] σ (tIW r).1 (tIW r).2) ∧ (∀ {σ : xSt} {r : Int × xSt}, f_M_readBracket n σ = some r → Call (4 + n) 342 [vR 111] σ (tIW r).1 (tIW r).2) ∧ (∀ {σ : xSt} {r : Int × xSt}, f_M_readNot n σ = some r → Call (4 + n) 341 [vR 111] σ (tIW r).1 (tIW r).2) ∧ (∀ {σ : xSt} {r : Int × xSt}, f_M_readOne n σ = some r → Call (4 + n) 340 [vR 111] σ (tIW r).1 (tIW r).2) ∧ (∀ {σ : xSt} {r : Int × xSt}, f_M_readOr n σ = some r → Call (4 + n) 338 [vR 111] σ (tIW r).1 (tIW r).2) := by
  intro n
  induction n with
  | zero => exact ⟨(fun h => nomatch (show (none : Option (Int × xSt)) = some _ from h)), (fun h => nomatch (show (none : Option (Int × xSt)) = some _ from h)), (fun h => nomatch (show (none : Option (Int × xSt)) = some _ from h)), (fun h => nomatch (show (none : Option (Int × xSt)) = some _ from h)), (fun h => nomatch (show (none : Option (Int × xSt)) = some _ from h))⟩
  | succ n ih =>
    obtain ⟨i0, i1, i2, i3, i4⟩ := ih
    exact ⟨(fun h => c0_M_readAnd (Nat.le_add_right 4 n) (fun h => i0 h) (fun h => i1 h) (fun h => i2 h) (fun h => i3 h) (fun h => i4 h) h), (fun h => c0_M_readBracket (Nat.le_add_right 4 n) (fun h => i0 h) (fun h => i1 h) (fun h => i2 h) (fun h => i3 h) (fun h => i4 h) h), (fun h => c0_M_readNot (Nat.le_add_right 4 n) (fun h => i0 h) (fun h => i1 h) (fun h => i2 h) (fun h => i3 h) (fun h => i4 h) h), (fun h => c0_M_readOne (Nat.le_add_right 4 n) (fun h => i0 h) (fun h => i1 h) (fun h => i2 h) (fun h => i3 h) (fun h => i4 h) h), (fun h => c0_M_readOr (Nat.le_add_right 4 n) (fun h => i0 h) (fun h => i1 h) (fun h => i2 h) (fun h => i3 h) (fun h => i4 h) h)⟩
theorem c_M_readAnd {σ : xSt} {r : Int × xSt} (hf : f_M_readAnd 60  σ = some r) : Call 64 339 [vR 111] σ (tIW r).1 (tIW r).2 := ((hg_M_readAnd 60).1) hf
theorem c_M_readBracket {σ : xSt} {r : Int × xSt} (hf : f_M_readBracket 60  σ = some r) : Call 64 342 [vR 111] σ (tIW r).1 (tIW r).2 := ((hg_M_readAnd 60).2.1) hf
theorem c_M_readNot {σ : xSt} {r : Int × xSt} (hf : f_M_readNot 60  σ = some r) : Call 64 341 [vR 111] σ (tIW r).1 (tIW r).2 := ((hg_M_readAnd 60).2.2.1) hf
theorem c_M_readOne {σ : xSt} {r : Int × xSt} (hf : f_M_readOne 60  σ = some r) : Call 64 340 [vR 111] σ (tIW r).1 (tIW r).2 := ((hg_M_readAnd 60).2.2.2.1) hf
theorem c_M_readOr {σ : xSt} {r : Int × xSt} (hf : f_M_readOr 60  σ = some r) : Call 64 338 [vR 111] σ (tIW r).1 (tIW r).2 := ((hg_M_readAnd 60).2.2.2.2) hf
def f_M_sentence_79 : Nat → Int → xSt → Option (Int × xSt)
  | 0, _, _ => none
  | n + 1, l1, σ =>
    if l1 < 240 then (if 0 ≤ l1 ∧ l1 < 240 then (
    if 0 ≤ w32 (684 + l1) ∧ w32 (684 + l1) < 924 then (
    xlet (upS σ 113 (w32 (684 + l1)).toNat (σ 138 l1.toNat)) fun σ11 =>
    xlet (w32 (l1 + 1)) fun x12 =>
    f_M_sentence_79 n x12 σ11) else none) else none)
    else (some (σ 111 72, σ))
/-- BentPennyModel.sentence()I -/
def f_M_sentence (σ : xSt) : Option (Int × xSt) :=
  xbR (f_M_begin 200 σ) fun σ1 =>
  xlet (upS σ1 111 71 0) fun σ2 =>
  xlet (upS σ2 111 72 0) fun σ3 =>
  xlet (upS σ3 111 73 0) fun σ4 =>
  xbW (f_M_readOr 60 σ4) fun r5 σ6 =>
  if r5 = 0 then (some (w32 ((-1) - (σ6 111 11)), σ6))
  else (if σ6 111 7 = 0 then (xlet (upS σ6 113 682 1) fun σ7 =>
  xlet (upS σ7 113 683 (σ7 111 74)) fun σ8 =>
  f_M_sentence_79 1000000 0 σ8)
  else (xbW (f_M_bad 1 σ6) fun r9 σ10 =>
  some (w32 ((-1) - (σ10 111 11)), σ10)))
theorem r_M_sentence_79 : ∀ (n : Nat) {l1 : Int} {σ : xSt} {r : Int × xSt}, f_M_sentence_79 n l1 σ = some r → Run 64 12 1 kX12_sentence (79, [some (vR 111), some (vI l1)], [], σ) (tIW r) := by
  intro n
  induction n with
  | zero =>
    intro _ _ _ h
    exact nomatch (show (none : Option (Int × xSt)) = some _ from h)
  | succ n ih =>
    intro l1 σ r hf
    unfold f_M_sentence_79 at hf
    refine run_seg (k := 3) (s' := (if l1 < 240 then (86, [some (vR 111), some (vI l1)], [], σ) else (108, [some (vR 111), some (vI l1)], [], σ))) rfl ?_
    refine run_ite hf (fun _ hf => ?_) (fun _ hf => ?_)
    · refine run_seg (k := 8) (s' := (100, [some (vR 111), some (vI l1)], [vI l1, vR 138, vI (w32 (684 + l1)), vR 113], σ)) rfl ?_
      refine run_guard (s' := (101, [some (vR 111), some (vI l1)], [vI (σ 138 l1.toNat), vI (w32 (684 + l1)), vR 113], σ)) hf rfl (fun hf => ?_)
      refine run_guard (s' := (102, [some (vR 111), some (vI l1)], [], upS σ 113 (w32 (684 + l1)).toNat (σ 138 l1.toNat))) hf rfl (fun hf => ?_)
      refine run_let (fun σ11 => (102, [some (vR 111), some (vI l1)], [], σ11)) hf (fun σ11 hf => ?_)
      refine run_seg (k := 1) (s' := (105, [some (vR 111), some (vI (w32 (l1 + 1)))], [], σ11)) rfl ?_
      refine run_let (fun x12 => (105, [some (vR 111), some (vI x12)], [], σ11)) hf (fun x12 hf => ?_)
      refine run_seg (k := 1) (s' := (79, [some (vR 111), some (vI x12)], [], σ11)) rfl ?_
      exact ih hf
    · refine run_seg (k := 2) (s' := (112, [some (vR 111), some (vI l1)], [vI (σ 111 72)], σ)) rfl ?_
      exact run_ret hf rfl
theorem c_M_sentence {σ : xSt} {r : Int × xSt} (hf : f_M_sentence σ = some r) : Call (64 + 1) 345 [vR 111] σ (tIW r).1 (tIW r).2 := by
  unfold f_M_sentence at hf
  refine call_of (own := 12) (rk := 1) (cd := kX12_sentence) (ls := [some (vR 111), none]) (rT := tIW) rfl rfl rfl rfl rfl ?_
  refine run_seg (k := 2) (s' := (4, [some (vR 111), none], [vI 200, vR 111], σ)) rfl ?_
  refine run_callV (m := 232) (as := [vR 111, vI 200]) (pc := 7) (ls := [some (vR 111), none]) (st' := []) (σ := σ) hf rfl (fun _ h => (c_M_begin h).mono (by decide)) (fun σ1 hf => ?_)
  refine run_seg (k := 3) (s' := (12, [some (vR 111), none], [], upS σ1 111 71 0)) rfl ?_
  refine run_let (fun σ2 => (12, [some (vR 111), none], [], σ2)) hf (fun σ2 hf => ?_)
  refine run_seg (k := 3) (s' := (17, [some (vR 111), none], [], upS σ2 111 72 0)) rfl ?_
  refine run_let (fun σ3 => (17, [some (vR 111), none], [], σ3)) hf (fun σ3 hf => ?_)
  refine run_seg (k := 3) (s' := (22, [some (vR 111), none], [], upS σ3 111 73 0)) rfl ?_
  refine run_let (fun σ4 => (22, [some (vR 111), none], [], σ4)) hf (fun σ4 hf => ?_)
  refine run_seg (k := 1) (s' := (23, [some (vR 111), none], [vR 111], σ4)) rfl ?_
  refine run_callW (w := fun a => some (vI a)) (m := 338) (as := [vR 111]) (pc := 26) (ls := [some (vR 111), none]) (st' := []) (σ := σ4) hf rfl (fun _ _ h => (c_M_readOr h).mono (by decide)) (fun r5 σ6 hf => ?_)
  refine run_seg (k := 1) (s' := (if r5 = 0 then (29, [some (vR 111), none], [], σ6) else (36, [some (vR 111), none], [], σ6))) rfl ?_
  refine run_ite hf (fun _ hf => ?_) (fun _ hf => ?_)
  · refine run_seg (k := 4) (s' := (35, [some (vR 111), none], [vI (w32 ((-1) - (σ6 111 11)))], σ6)) rfl ?_
    exact run_ret hf rfl
  · refine run_seg (k := 3) (s' := (if σ6 111 7 = 0 then (56, [some (vR 111), none], [], σ6) else (43, [some (vR 111), none], [], σ6))) rfl ?_
    refine run_ite hf (fun _ hf => ?_) (fun _ hf => ?_)
    · refine run_seg (k := 5) (s' := (65, [some (vR 111), none], [], upS σ6 113 682 1)) rfl ?_
      refine run_let (fun σ7 => (65, [some (vR 111), none], [], σ7)) hf (fun σ7 hf => ?_)
      refine run_seg (k := 6) (s' := (77, [some (vR 111), none], [], upS σ7 113 683 (σ7 111 74))) rfl ?_
      refine run_let (fun σ8 => (77, [some (vR 111), none], [], σ8)) hf (fun σ8 hf => ?_)
      refine run_seg (k := 2) (s' := (79, [some (vR 111), some (vI 0)], [], σ8)) rfl ?_
      exact r_M_sentence_79 1000000 hf
    · refine run_seg (k := 2) (s' := (45, [some (vR 111), none], [vI 1, vR 111], σ6)) rfl ?_
      refine run_callW (w := fun a => some (vI a)) (m := 229) (as := [vR 111, vI 1]) (pc := 48) (ls := [some (vR 111), none]) (st' := []) (σ := σ6) hf rfl (fun _ _ h => (c_M_bad h).mono (by decide)) (fun r9 σ10 hf => ?_)
      refine run_seg (k := 5) (s' := (55, [some (vR 111), none], [vI (w32 ((-1) - (σ10 111 11)))], σ10)) rfl ?_
      exact run_ret hf rfl
def f_M_knots_4 : Nat → Int → Int → Int → xSt → Option (Int)
  | 0, _, _, _, _ => none
  | n + 1, l1, l2, l3, σ =>
    if l3 < σ 113 41 then (xbR (f_M_sortOf l3 σ) fun r1 =>
    if r1 = 0 then (xbR (f_M_whichOf l3 σ) fun r2 =>
    if r2 = l1 then (xlet (w32 (l2 + 1)) fun x3 =>
    xlet (w32 (l3 + 1)) fun x4 =>
    f_M_knots_4 n l1 x3 x4 σ)
    else (xlet (w32 (l3 + 1)) fun x5 =>
    f_M_knots_4 n l1 l2 x5 σ))
    else (xlet (w32 (l3 + 1)) fun x6 =>
    f_M_knots_4 n l1 l2 x6 σ))
    else (some l2)
/-- BentPennyModel.knots(I)I -/
def f_M_knots (p1 : Int) (σ : xSt) : Option (Int) :=
  f_M_knots_4 1000000 p1 0 0 σ
theorem r_M_knots_4 : ∀ (n : Nat) {l1 : Int} {l2 : Int} {l3 : Int} {σ : xSt} {r : Int}, f_M_knots_4 n l1 l2 l3 σ = some r → Run 1 12 1 kX12_knots (4, [some (vR 111), some (vI l1), some (vI l2), some (vI l3)], [], σ) ((tI σ) r) := by
  intro n
  induction n with
  | zero =>
    intro _ _ _ _ _ h
    exact nomatch (show (none : Option (Int)) = some _ from h)
  | succ n ih =>
    intro l1 l2 l3 σ r hf
    unfold f_M_knots_4 at hf
    refine run_seg (k := 6) (s' := (if l3 < σ 113 41 then (15, [some (vR 111), some (vI l1), some (vI l2), some (vI l3)], [], σ) else (41, [some (vR 111), some (vI l1), some (vI l2), some (vI l3)], [], σ))) rfl ?_
    refine run_ite hf (fun _ hf => ?_) (fun _ hf => ?_)
    · refine run_seg (k := 2) (s' := (17, [some (vR 111), some (vI l1), some (vI l2), some (vI l3)], [vI l3, vR 111], σ)) rfl ?_
      refine run_callN (w := fun a => some (vI a)) (m := 257) (as := [vR 111, vI l3]) (pc := 20) (ls := [some (vR 111), some (vI l1), some (vI l2), some (vI l3)]) (st' := []) (σ := σ) hf rfl (fun _ h => (c_M_sortOf h).mono (by decide)) (fun r1 hf => ?_)
      refine run_seg (k := 1) (s' := (if r1 = 0 then (23, [some (vR 111), some (vI l1), some (vI l2), some (vI l3)], [], σ) else (35, [some (vR 111), some (vI l1), some (vI l2), some (vI l3)], [], σ))) rfl ?_
      refine run_ite hf (fun _ hf => ?_) (fun _ hf => ?_)
      · refine run_seg (k := 2) (s' := (25, [some (vR 111), some (vI l1), some (vI l2), some (vI l3)], [vI l3, vR 111], σ)) rfl ?_
        refine run_callN (w := fun a => some (vI a)) (m := 258) (as := [vR 111, vI l3]) (pc := 28) (ls := [some (vR 111), some (vI l1), some (vI l2), some (vI l3)]) (st' := []) (σ := σ) hf rfl (fun _ h => (c_M_whichOf h).mono (by decide)) (fun r2 hf => ?_)
        refine run_seg (k := 2) (s' := (if r2 = l1 then (32, [some (vR 111), some (vI l1), some (vI l2), some (vI l3)], [], σ) else (35, [some (vR 111), some (vI l1), some (vI l2), some (vI l3)], [], σ))) rfl ?_
        refine run_ite hf (fun _ hf => ?_) (fun _ hf => ?_)
        · refine run_seg (k := 1) (s' := (35, [some (vR 111), some (vI l1), some (vI (w32 (l2 + 1))), some (vI l3)], [], σ)) rfl ?_
          refine run_let (fun x3 => (35, [some (vR 111), some (vI l1), some (vI x3), some (vI l3)], [], σ)) hf (fun x3 hf => ?_)
          refine run_seg (k := 1) (s' := (38, [some (vR 111), some (vI l1), some (vI x3), some (vI (w32 (l3 + 1)))], [], σ)) rfl ?_
          refine run_let (fun x4 => (38, [some (vR 111), some (vI l1), some (vI x3), some (vI x4)], [], σ)) hf (fun x4 hf => ?_)
          refine run_seg (k := 1) (s' := (4, [some (vR 111), some (vI l1), some (vI x3), some (vI x4)], [], σ)) rfl ?_
          exact ih hf
        · refine run_seg (k := 1) (s' := (38, [some (vR 111), some (vI l1), some (vI l2), some (vI (w32 (l3 + 1)))], [], σ)) rfl ?_
          refine run_let (fun x5 => (38, [some (vR 111), some (vI l1), some (vI l2), some (vI x5)], [], σ)) hf (fun x5 hf => ?_)
          refine run_seg (k := 1) (s' := (4, [some (vR 111), some (vI l1), some (vI l2), some (vI x5)], [], σ)) rfl ?_
          exact ih hf
      · refine run_seg (k := 1) (s' := (38, [some (vR 111), some (vI l1), some (vI l2), some (vI (w32 (l3 + 1)))], [], σ)) rfl ?_
        refine run_let (fun x6 => (38, [some (vR 111), some (vI l1), some (vI l2), some (vI x6)], [], σ)) hf (fun x6 hf => ?_)
        refine run_seg (k := 1) (s' := (4, [some (vR 111), some (vI l1), some (vI l2), some (vI x6)], [], σ)) rfl ?_
        exact ih hf
    · refine run_seg (k := 1) (s' := (42, [some (vR 111), some (vI l1), some (vI l2), some (vI l3)], [vI l2], σ)) rfl ?_
      exact run_ret hf rfl
theorem c_M_knots {p1 : Int} {σ : xSt} {r : Int} (hf : f_M_knots p1 σ = some r) : Call (1 + 1) 346 [vR 111, vI p1] σ ((tI σ) r).1 ((tI σ) r).2 := by
  unfold f_M_knots at hf
  refine call_of (own := 12) (rk := 1) (cd := kX12_knots) (ls := [some (vR 111), some (vI p1), none, none]) (rT := (tI σ)) rfl rfl rfl rfl rfl ?_
  refine run_seg (k := 4) (s' := (4, [some (vR 111), some (vI p1), some (vI 0), some (vI 0)], [], σ)) rfl ?_
  exact r_M_knots_4 1000000 hf
def f_M_holds_216 (q_M_holds : (Int → Int → xSt → Option (Int))) (l3 : Int) (l5 : Int) (s0 : Int) (σ : xSt) : Option (Int) :=
  if 0 ≤ w32 (l3 + 3) ∧ w32 (l3 + 3) < 924 then (
  if σ 113 (w32 (l3 + 3)).toNat = 60 then (if s0 < l5 then (some 1)
  else (some 0))
  else (if 0 ≤ w32 (l3 + 3) ∧ w32 (l3 + 3) < 924 then (
  if σ 113 (w32 (l3 + 3)).toNat = 61 then (if s0 = l5 then (some 1)
  else (some 0))
  else (if l5 < s0 then (some 1)
  else (some 0))) else none)) else none
/-- BentPennyModel.holds(II)Z -/
def f0_M_holds (q_M_holds : (Int → Int → xSt → Option (Int))) (p1 : Int) (p2 : Int) (σ : xSt) : Option (Int) :=
  xlet (w32 (684 + (w32 (4 * p1)))) fun x1 =>
  if 0 ≤ w32 (x1 + 1) ∧ w32 (x1 + 1) < 924 then (
  xlet (σ 113 (w32 (x1 + 1)).toNat) fun x2 =>
  if 0 ≤ w32 (x1 + 2) ∧ w32 (x1 + 2) < 924 then (
  xlet (σ 113 (w32 (x1 + 2)).toNat) fun x3 =>
  if 0 ≤ x1 ∧ x1 < 924 then (
  if σ 113 x1.toNat = 1 then (xbR (q_M_holds x2 p2 σ) fun r4 =>
  if r4 = 0 then (some 1)
  else (some 0))
  else if σ 113 x1.toNat = 2 then (xbR (q_M_holds x2 p2 σ) fun r5 =>
  if r5 = 0 then (some 0)
  else (xbR (q_M_holds x3 p2 σ) fun r6 =>
  if r6 = 0 then (some 0)
  else (some 1)))
  else if σ 113 x1.toNat = 3 then (xbR (q_M_holds x2 p2 σ) fun r7 =>
  if r7 = 0 then (xbR (q_M_holds x3 p2 σ) fun r8 =>
  if r8 = 0 then (some 0)
  else (some 1))
  else (some 1))
  else if σ 113 x1.toNat = 59 then (xbR (f_M_areLike p2 x2 σ) fun r9 =>
  some (xnb r9))
  else if σ 113 x1.toNat = 60 then (xbR (f_M_comes p2 σ) fun r10 =>
  some (xnb r10))
  else if σ 113 x1.toNat = 61 then (if 0 ≤ w32 ((w32 (28 + (w32 (2 * p2)))) + 1) ∧ w32 ((w32 (28 + (w32 (2 * p2)))) + 1) < 924 then (
  if 0 < σ 113 (w32 ((w32 (28 + (w32 (2 * p2)))) + 1)).toNat then (some 1)
  else (some 0)) else none)
  else (if 0 ≤ x1 ∧ x1 < 924 then (
  if σ 113 x1.toNat = 62 then (f_M_holds_216 q_M_holds x1 x3 p2 σ)
  else (xbR (f_M_knots p2 σ) fun r11 =>
  f_M_holds_216 q_M_holds x1 x3 r11 σ)) else none)) else none) else none) else none
theorem r_M_holds_216 {d : Nat} (hd : 2 ≤ d) {q_M_holds : (Int → Int → xSt → Option (Int))} (hq_M_holds : ∀ {p1 : Int} {p2 : Int} {σ : xSt} {r : Int}, q_M_holds p1 p2 σ = some r → Call d 347 [vR 111, vI p1, vI p2] σ ((tI σ) r).1 ((tI σ) r).2) {l3 : Int} {l5 : Int} {s0 : Int} {g1 : Option xV} {g2 : Option xV} {g4 : Option xV} {g6 : Option xV} {σ : xSt} {r : Int} (hf : f_M_holds_216 q_M_holds l3 l5 s0 σ = some r) : Run d 12 2 kX12_holds (216, [some (vR 111), g1, g2, some (vI l3), g4, some (vI l5), g6], [vI s0], σ) ((tI σ) r) := by
  unfold f_M_holds_216 at hf
  refine run_seg (k := 6) (s' := (225, [some (vR 111), g1, g2, some (vI l3), g4, some (vI l5), some (vI s0)], [vI (w32 (l3 + 3)), vR 113], σ)) rfl ?_
  refine run_guard (s' := (226, [some (vR 111), g1, g2, some (vI l3), g4, some (vI l5), some (vI s0)], [vI (σ 113 (w32 (l3 + 3)).toNat)], σ)) hf rfl (fun hf => ?_)
  refine run_seg (k := 2) (s' := (if σ 113 (w32 (l3 + 3)).toNat = 60 then (231, [some (vR 111), g1, g2, some (vI l3), g4, some (vI l5), some (vI s0)], [], σ) else (246, [some (vR 111), g1, g2, some (vI l3), g4, some (vI l5), some (vI s0)], [], σ))) rfl ?_
  refine run_ite hf (fun _ hf => ?_) (fun _ hf => ?_)
  · refine run_seg (k := 3) (s' := (if s0 < l5 then (238, [some (vR 111), g1, g2, some (vI l3), g4, some (vI l5), some (vI s0)], [], σ) else (242, [some (vR 111), g1, g2, some (vI l3), g4, some (vI l5), some (vI s0)], [], σ))) rfl ?_
    refine run_ite hf (fun _ hf => ?_) (fun _ hf => ?_)
    · refine run_seg (k := 2) (s' := (286, [some (vR 111), g1, g2, some (vI l3), g4, some (vI l5), some (vI s0)], [vI 1], σ)) rfl ?_
      exact run_ret hf rfl
    · refine run_seg (k := 2) (s' := (286, [some (vR 111), g1, g2, some (vI l3), g4, some (vI l5), some (vI s0)], [vI 0], σ)) rfl ?_
      exact run_ret hf rfl
  · refine run_seg (k := 5) (s' := (253, [some (vR 111), g1, g2, some (vI l3), g4, some (vI l5), some (vI s0)], [vI (w32 (l3 + 3)), vR 113], σ)) rfl ?_
    refine run_guard (s' := (254, [some (vR 111), g1, g2, some (vI l3), g4, some (vI l5), some (vI s0)], [vI (σ 113 (w32 (l3 + 3)).toNat)], σ)) hf rfl (fun hf => ?_)
    refine run_seg (k := 2) (s' := (if σ 113 (w32 (l3 + 3)).toNat = 61 then (259, [some (vR 111), g1, g2, some (vI l3), g4, some (vI l5), some (vI s0)], [], σ) else (274, [some (vR 111), g1, g2, some (vI l3), g4, some (vI l5), some (vI s0)], [], σ))) rfl ?_
    refine run_ite hf (fun _ hf => ?_) (fun _ hf => ?_)
    · refine run_seg (k := 3) (s' := (if s0 = l5 then (266, [some (vR 111), g1, g2, some (vI l3), g4, some (vI l5), some (vI s0)], [], σ) else (270, [some (vR 111), g1, g2, some (vI l3), g4, some (vI l5), some (vI s0)], [], σ))) rfl ?_
      refine run_ite hf (fun _ hf => ?_) (fun _ hf => ?_)
      · refine run_seg (k := 2) (s' := (286, [some (vR 111), g1, g2, some (vI l3), g4, some (vI l5), some (vI s0)], [vI 1], σ)) rfl ?_
        exact run_ret hf rfl
      · refine run_seg (k := 2) (s' := (286, [some (vR 111), g1, g2, some (vI l3), g4, some (vI l5), some (vI s0)], [vI 0], σ)) rfl ?_
        exact run_ret hf rfl
    · refine run_seg (k := 3) (s' := (if l5 < s0 then (281, [some (vR 111), g1, g2, some (vI l3), g4, some (vI l5), some (vI s0)], [], σ) else (285, [some (vR 111), g1, g2, some (vI l3), g4, some (vI l5), some (vI s0)], [], σ))) rfl ?_
      refine run_ite hf (fun _ hf => ?_) (fun _ hf => ?_)
      · refine run_seg (k := 2) (s' := (286, [some (vR 111), g1, g2, some (vI l3), g4, some (vI l5), some (vI s0)], [vI 1], σ)) rfl ?_
        exact run_ret hf rfl
      · refine run_seg (k := 1) (s' := (286, [some (vR 111), g1, g2, some (vI l3), g4, some (vI l5), some (vI s0)], [vI 0], σ)) rfl ?_
        exact run_ret hf rfl
theorem c0_M_holds {d : Nat} (hd : 2 ≤ d) {q_M_holds : (Int → Int → xSt → Option (Int))} (hq_M_holds : ∀ {p1 : Int} {p2 : Int} {σ : xSt} {r : Int}, q_M_holds p1 p2 σ = some r → Call d 347 [vR 111, vI p1, vI p2] σ ((tI σ) r).1 ((tI σ) r).2) {p1 : Int} {p2 : Int} {σ : xSt} {r : Int} (hf : f0_M_holds q_M_holds p1 p2 σ = some r) : Call (d + 1) 347 [vR 111, vI p1, vI p2] σ ((tI σ) r).1 ((tI σ) r).2 := by
  unfold f0_M_holds at hf
  refine call_of (own := 12) (rk := 2) (cd := kX12_holds) (ls := [some (vR 111), some (vI p1), some (vI p2), none, none, none, none]) (rT := (tI σ)) rfl rfl rfl rfl rfl ?_
  refine run_seg (k := 6) (s' := (8, [some (vR 111), some (vI p1), some (vI p2), some (vI (w32 (684 + (w32 (4 * p1))))), none, none, none], [], σ)) rfl ?_
  refine run_let (fun x1 => (8, [some (vR 111), some (vI p1), some (vI p2), some (vI x1), none, none, none], [], σ)) hf (fun x1 hf => ?_)
  refine run_seg (k := 5) (s' := (15, [some (vR 111), some (vI p1), some (vI p2), some (vI x1), none, none, none], [vI (w32 (x1 + 1)), vR 113], σ)) rfl ?_
  refine run_guard (s' := (16, [some (vR 111), some (vI p1), some (vI p2), some (vI x1), none, none, none], [vI (σ 113 (w32 (x1 + 1)).toNat)], σ)) hf rfl (fun hf => ?_)
  refine run_seg (k := 1) (s' := (18, [some (vR 111), some (vI p1), some (vI p2), some (vI x1), some (vI (σ 113 (w32 (x1 + 1)).toNat)), none, none], [], σ)) rfl ?_
  refine run_let (fun x2 => (18, [some (vR 111), some (vI p1), some (vI p2), some (vI x1), some (vI x2), none, none], [], σ)) hf (fun x2 hf => ?_)
  refine run_seg (k := 5) (s' := (25, [some (vR 111), some (vI p1), some (vI p2), some (vI x1), some (vI x2), none, none], [vI (w32 (x1 + 2)), vR 113], σ)) rfl ?_
  refine run_guard (s' := (26, [some (vR 111), some (vI p1), some (vI p2), some (vI x1), some (vI x2), none, none], [vI (σ 113 (w32 (x1 + 2)).toNat)], σ)) hf rfl (fun hf => ?_)
  refine run_seg (k := 1) (s' := (28, [some (vR 111), some (vI p1), some (vI p2), some (vI x1), some (vI x2), some (vI (σ 113 (w32 (x1 + 2)).toNat)), none], [], σ)) rfl ?_
  refine run_let (fun x3 => (28, [some (vR 111), some (vI p1), some (vI p2), some (vI x1), some (vI x2), some (vI x3), none], [], σ)) hf (fun x3 hf => ?_)
  refine run_seg (k := 3) (s' := (33, [some (vR 111), some (vI p1), some (vI p2), some (vI x1), some (vI x2), some (vI x3), none], [vI x1, vR 113], σ)) rfl ?_
  refine run_guard (s' := (34, [some (vR 111), some (vI p1), some (vI p2), some (vI x1), some (vI x2), some (vI x3), none], [vI (σ 113 x1.toNat)], σ)) hf rfl (fun hf => ?_)
  refine run_seg (k := 1) (s' := (if σ 113 x1.toNat = 1 then (92, [some (vR 111), some (vI p1), some (vI p2), some (vI x1), some (vI x2), some (vI x3), none], [], σ) else (if σ 113 x1.toNat = 2 then (108, [some (vR 111), some (vI p1), some (vI p2), some (vI x1), some (vI x2), some (vI x3), none], [], σ) else (if σ 113 x1.toNat = 3 then (134, [some (vR 111), some (vI p1), some (vI p2), some (vI x1), some (vI x2), some (vI x3), none], [], σ) else (if σ 113 x1.toNat = 59 then (160, [some (vR 111), some (vI p1), some (vI p2), some (vI x1), some (vI x2), some (vI x3), none], [], σ) else (if σ 113 x1.toNat = 60 then (168, [some (vR 111), some (vI p1), some (vI p2), some (vI x1), some (vI x2), some (vI x3), none], [], σ) else (if σ 113 x1.toNat = 61 then (174, [some (vR 111), some (vI p1), some (vI p2), some (vI x1), some (vI x2), some (vI x3), none], [], σ) else (196, [some (vR 111), some (vI p1), some (vI p2), some (vI x1), some (vI x2), some (vI x3), none], [], σ)))))))) rfl ?_
  refine run_ite hf (fun _ hf => ?_) (fun _ hf => ?_)
  · refine run_seg (k := 3) (s' := (96, [some (vR 111), some (vI p1), some (vI p2), some (vI x1), some (vI x2), some (vI x3), none], [vI p2, vI x2, vR 111], σ)) rfl ?_
    refine run_callN (w := fun a => some (vI a)) (m := 347) (as := [vR 111, vI x2, vI p2]) (pc := 99) (ls := [some (vR 111), some (vI p1), some (vI p2), some (vI x1), some (vI x2), some (vI x3), none]) (st' := []) (σ := σ) hf rfl (fun _ h => (hq_M_holds h)) (fun r4 hf => ?_)
    refine run_seg (k := 1) (s' := (if r4 = 0 then (102, [some (vR 111), some (vI p1), some (vI p2), some (vI x1), some (vI x2), some (vI x3), none], [], σ) else (106, [some (vR 111), some (vI p1), some (vI p2), some (vI x1), some (vI x2), some (vI x3), none], [], σ))) rfl ?_
    refine run_ite hf (fun _ hf => ?_) (fun _ hf => ?_)
    · refine run_seg (k := 2) (s' := (107, [some (vR 111), some (vI p1), some (vI p2), some (vI x1), some (vI x2), some (vI x3), none], [vI 1], σ)) rfl ?_
      exact run_ret hf rfl
    · refine run_seg (k := 1) (s' := (107, [some (vR 111), some (vI p1), some (vI p2), some (vI x1), some (vI x2), some (vI x3), none], [vI 0], σ)) rfl ?_
      exact run_ret hf rfl
  · refine run_ite hf (fun _ hf => ?_) (fun _ hf => ?_)
    · refine run_seg (k := 3) (s' := (112, [some (vR 111), some (vI p1), some (vI p2), some (vI x1), some (vI x2), some (vI x3), none], [vI p2, vI x2, vR 111], σ)) rfl ?_
      refine run_callN (w := fun a => some (vI a)) (m := 347) (as := [vR 111, vI x2, vI p2]) (pc := 115) (ls := [some (vR 111), some (vI p1), some (vI p2), some (vI x1), some (vI x2), some (vI x3), none]) (st' := []) (σ := σ) hf rfl (fun _ h => (hq_M_holds h)) (fun r5 hf => ?_)
      refine run_seg (k := 1) (s' := (if r5 = 0 then (132, [some (vR 111), some (vI p1), some (vI p2), some (vI x1), some (vI x2), some (vI x3), none], [], σ) else (118, [some (vR 111), some (vI p1), some (vI p2), some (vI x1), some (vI x2), some (vI x3), none], [], σ))) rfl ?_
      refine run_ite hf (fun _ hf => ?_) (fun _ hf => ?_)
      · refine run_seg (k := 1) (s' := (133, [some (vR 111), some (vI p1), some (vI p2), some (vI x1), some (vI x2), some (vI x3), none], [vI 0], σ)) rfl ?_
        exact run_ret hf rfl
      · refine run_seg (k := 3) (s' := (122, [some (vR 111), some (vI p1), some (vI p2), some (vI x1), some (vI x2), some (vI x3), none], [vI p2, vI x3, vR 111], σ)) rfl ?_
        refine run_callN (w := fun a => some (vI a)) (m := 347) (as := [vR 111, vI x3, vI p2]) (pc := 125) (ls := [some (vR 111), some (vI p1), some (vI p2), some (vI x1), some (vI x2), some (vI x3), none]) (st' := []) (σ := σ) hf rfl (fun _ h => (hq_M_holds h)) (fun r6 hf => ?_)
        refine run_seg (k := 1) (s' := (if r6 = 0 then (132, [some (vR 111), some (vI p1), some (vI p2), some (vI x1), some (vI x2), some (vI x3), none], [], σ) else (128, [some (vR 111), some (vI p1), some (vI p2), some (vI x1), some (vI x2), some (vI x3), none], [], σ))) rfl ?_
        refine run_ite hf (fun _ hf => ?_) (fun _ hf => ?_)
        · refine run_seg (k := 1) (s' := (133, [some (vR 111), some (vI p1), some (vI p2), some (vI x1), some (vI x2), some (vI x3), none], [vI 0], σ)) rfl ?_
          exact run_ret hf rfl
        · refine run_seg (k := 2) (s' := (133, [some (vR 111), some (vI p1), some (vI p2), some (vI x1), some (vI x2), some (vI x3), none], [vI 1], σ)) rfl ?_
          exact run_ret hf rfl
    · refine run_ite hf (fun _ hf => ?_) (fun _ hf => ?_)
      · refine run_seg (k := 3) (s' := (138, [some (vR 111), some (vI p1), some (vI p2), some (vI x1), some (vI x2), some (vI x3), none], [vI p2, vI x2, vR 111], σ)) rfl ?_
        refine run_callN (w := fun a => some (vI a)) (m := 347) (as := [vR 111, vI x2, vI p2]) (pc := 141) (ls := [some (vR 111), some (vI p1), some (vI p2), some (vI x1), some (vI x2), some (vI x3), none]) (st' := []) (σ := σ) hf rfl (fun _ h => (hq_M_holds h)) (fun r7 hf => ?_)
        refine run_seg (k := 1) (s' := (if r7 = 0 then (144, [some (vR 111), some (vI p1), some (vI p2), some (vI x1), some (vI x2), some (vI x3), none], [], σ) else (154, [some (vR 111), some (vI p1), some (vI p2), some (vI x1), some (vI x2), some (vI x3), none], [], σ))) rfl ?_
        refine run_ite hf (fun _ hf => ?_) (fun _ hf => ?_)
        · refine run_seg (k := 3) (s' := (148, [some (vR 111), some (vI p1), some (vI p2), some (vI x1), some (vI x2), some (vI x3), none], [vI p2, vI x3, vR 111], σ)) rfl ?_
          refine run_callN (w := fun a => some (vI a)) (m := 347) (as := [vR 111, vI x3, vI p2]) (pc := 151) (ls := [some (vR 111), some (vI p1), some (vI p2), some (vI x1), some (vI x2), some (vI x3), none]) (st' := []) (σ := σ) hf rfl (fun _ h => (hq_M_holds h)) (fun r8 hf => ?_)
          refine run_seg (k := 1) (s' := (if r8 = 0 then (158, [some (vR 111), some (vI p1), some (vI p2), some (vI x1), some (vI x2), some (vI x3), none], [], σ) else (154, [some (vR 111), some (vI p1), some (vI p2), some (vI x1), some (vI x2), some (vI x3), none], [], σ))) rfl ?_
          refine run_ite hf (fun _ hf => ?_) (fun _ hf => ?_)
          · refine run_seg (k := 1) (s' := (159, [some (vR 111), some (vI p1), some (vI p2), some (vI x1), some (vI x2), some (vI x3), none], [vI 0], σ)) rfl ?_
            exact run_ret hf rfl
          · refine run_seg (k := 2) (s' := (159, [some (vR 111), some (vI p1), some (vI p2), some (vI x1), some (vI x2), some (vI x3), none], [vI 1], σ)) rfl ?_
            exact run_ret hf rfl
        · refine run_seg (k := 2) (s' := (159, [some (vR 111), some (vI p1), some (vI p2), some (vI x1), some (vI x2), some (vI x3), none], [vI 1], σ)) rfl ?_
          exact run_ret hf rfl
      · refine run_ite hf (fun _ hf => ?_) (fun _ hf => ?_)
        · refine run_seg (k := 3) (s' := (164, [some (vR 111), some (vI p1), some (vI p2), some (vI x1), some (vI x2), some (vI x3), none], [vI x2, vI p2, vR 111], σ)) rfl ?_
          refine run_callN (w := fun a => some (vI a)) (m := 280) (as := [vR 111, vI p2, vI x2]) (pc := 167) (ls := [some (vR 111), some (vI p1), some (vI p2), some (vI x1), some (vI x2), some (vI x3), none]) (st' := []) (σ := σ) hf rfl (fun _ h => (c_M_areLike h).mono (Nat.le_trans (by decide) hd)) (fun r9 hf => ?_)
          exact run_ret hf rfl
        · refine run_ite hf (fun _ hf => ?_) (fun _ hf => ?_)
          · refine run_seg (k := 2) (s' := (170, [some (vR 111), some (vI p1), some (vI p2), some (vI x1), some (vI x2), some (vI x3), none], [vI p2, vR 111], σ)) rfl ?_
            refine run_callN (w := fun a => some (vI a)) (m := 281) (as := [vR 111, vI p2]) (pc := 173) (ls := [some (vR 111), some (vI p1), some (vI p2), some (vI x1), some (vI x2), some (vI x3), none]) (st' := []) (σ := σ) hf rfl (fun _ h => (c_M_comes h).mono (Nat.le_trans (by decide) hd)) (fun r10 hf => ?_)
            exact run_ret hf rfl
          · refine run_ite hf (fun _ hf => ?_) (fun _ hf => ?_)
            · refine run_seg (k := 9) (s' := (186, [some (vR 111), some (vI p1), some (vI p2), some (vI x1), some (vI x2), some (vI x3), none], [vI (w32 ((w32 (28 + (w32 (2 * p2)))) + 1)), vR 113], σ)) rfl ?_
              refine run_guard (s' := (187, [some (vR 111), some (vI p1), some (vI p2), some (vI x1), some (vI x2), some (vI x3), none], [vI (σ 113 (w32 ((w32 (28 + (w32 (2 * p2)))) + 1)).toNat)], σ)) hf rfl (fun hf => ?_)
              refine run_seg (k := 1) (s' := (if 0 < σ 113 (w32 ((w32 (28 + (w32 (2 * p2)))) + 1)).toNat then (190, [some (vR 111), some (vI p1), some (vI p2), some (vI x1), some (vI x2), some (vI x3), none], [], σ) else (194, [some (vR 111), some (vI p1), some (vI p2), some (vI x1), some (vI x2), some (vI x3), none], [], σ))) rfl ?_
              refine run_ite hf (fun _ hf => ?_) (fun _ hf => ?_)
              · refine run_seg (k := 2) (s' := (195, [some (vR 111), some (vI p1), some (vI p2), some (vI x1), some (vI x2), some (vI x3), none], [vI 1], σ)) rfl ?_
                exact run_ret hf rfl
              · refine run_seg (k := 1) (s' := (195, [some (vR 111), some (vI p1), some (vI p2), some (vI x1), some (vI x2), some (vI x3), none], [vI 0], σ)) rfl ?_
                exact run_ret hf rfl
            · refine run_seg (k := 3) (s' := (201, [some (vR 111), some (vI p1), some (vI p2), some (vI x1), some (vI x2), some (vI x3), none], [vI x1, vR 113], σ)) rfl ?_
              refine run_guard (s' := (202, [some (vR 111), some (vI p1), some (vI p2), some (vI x1), some (vI x2), some (vI x3), none], [vI (σ 113 x1.toNat)], σ)) hf rfl (fun hf => ?_)
              refine run_seg (k := 2) (s' := (if σ 113 x1.toNat = 62 then (207, [some (vR 111), some (vI p1), some (vI p2), some (vI x1), some (vI x2), some (vI x3), none], [], σ) else (211, [some (vR 111), some (vI p1), some (vI p2), some (vI x1), some (vI x2), some (vI x3), none], [], σ))) rfl ?_
              refine run_ite hf (fun _ hf => ?_) (fun _ hf => ?_)
              · refine run_seg (k := 2) (s' := (216, [some (vR 111), some (vI p1), some (vI p2), some (vI x1), some (vI x2), some (vI x3), none], [vI p2], σ)) rfl ?_
                exact r_M_holds_216 hd hq_M_holds hf
              · refine run_seg (k := 2) (s' := (213, [some (vR 111), some (vI p1), some (vI p2), some (vI x1), some (vI x2), some (vI x3), none], [vI p2, vR 111], σ)) rfl ?_
                refine run_callN (w := fun a => some (vI a)) (m := 346) (as := [vR 111, vI p2]) (pc := 216) (ls := [some (vR 111), some (vI p1), some (vI p2), some (vI x1), some (vI x2), some (vI x3), none]) (st' := []) (σ := σ) hf rfl (fun _ h => (c_M_knots h).mono (Nat.le_trans (by decide) hd)) (fun r11 hf => ?_)
                exact r_M_holds_216 hd hq_M_holds hf
def g_M_holds : Nat → (Int → Int → xSt → Option (Int))
  | 0 => ((fun _ _ _ => none))
  | n + 1 => ((fun p1 p2 σ => f0_M_holds (g_M_holds n) p1 p2 σ))
def f_M_holds (n : Nat) (p1 : Int) (p2 : Int) (σ : xSt) : Option (Int) := g_M_holds n p1 p2 σ
theorem hg_M_holds : ∀ n, (∀ {p1 : Int} {p2 : Int} {σ : xSt} {r : Int}, f_M_holds n p1 p2 σ = some r → Call (2 + n) 347 [vR 111, vI p1, vI p2] σ ((tI σ) r).1 ((tI σ) r).2) := by
  intro n
  induction n with
  | zero => exact fun h => nomatch (show (none : Option (Int)) = some _ from h)
  | succ n ih => exact fun h => c0_M_holds (Nat.le_add_right 2 n) (fun h => ih h) h
theorem c_M_holds {p1 : Int} {p2 : Int} {σ : xSt} {r : Int} (hf : f_M_holds 60 p1 p2 σ = some r) : Call 62 347 [vR 111, vI p1, vI p2] σ ((tI σ) r).1 ((tI σ) r).2 := (hg_M_holds 60) hf
def f_M_said_33 : Nat → Int → Int → Int → xSt → Option (Int × xSt)
  | 0, _, _, _, _ => none
  | n + 1, l1, l2, l3, σ =>
    xbR (f_M_ends σ) fun r4 =>
    if l3 < r4 then (xbR (f_M_holds 60 (σ 113 683) l3 σ) fun r5 =>
    if r5 = 0 then (xlet (w32 (l3 + 1)) fun x6 =>
    f_M_said_33 n l1 l2 x6 σ)
    else (if l2 = l1 then (some (l3, σ))
    else (xlet (w32 (l2 + 1)) fun x7 =>
    xlet (w32 (l3 + 1)) fun x8 =>
    f_M_said_33 n l1 x7 x8 σ)))
    else (if l1 = (-1) then (some (l2, σ))
    else (some ((-1), σ)))
/-- BentPennyModel.said(I)I -/
def f_M_said (p1 : Int) (σ : xSt) : Option (Int × xSt) :=
  xlet (upS σ 111 0 0) fun σ1 =>
  if σ1 113 682 = 0 then (some ((-1), σ1))
  else (xbR (f_M_hasWay σ1) fun r2 =>
  if r2 = 0 then (some ((-1), σ1))
  else (xbR (f_M_layPowers σ1) fun σ3 =>
  f_M_said_33 1000000 p1 0 0 σ3))
theorem r_M_said_33 : ∀ (n : Nat) {l1 : Int} {l2 : Int} {l3 : Int} {σ : xSt} {r : Int × xSt}, f_M_said_33 n l1 l2 l3 σ = some r → Run 62 12 1 kX12_said (33, [some (vR 111), some (vI l1), some (vI l2), some (vI l3)], [], σ) (tIW r) := by
  intro n
  induction n with
  | zero =>
    intro _ _ _ _ _ h
    exact nomatch (show (none : Option (Int × xSt)) = some _ from h)
  | succ n ih =>
    intro l1 l2 l3 σ r hf
    unfold f_M_said_33 at hf
    refine run_seg (k := 2) (s' := (35, [some (vR 111), some (vI l1), some (vI l2), some (vI l3)], [vR 111, vI l3], σ)) rfl ?_
    refine run_callN (w := fun a => some (vI a)) (m := 246) (as := [vR 111]) (pc := 38) (ls := [some (vR 111), some (vI l1), some (vI l2), some (vI l3)]) (st' := [vI l3]) (σ := σ) hf rfl (fun _ h => (c_M_ends h).mono (by decide)) (fun r4 hf => ?_)
    refine run_seg (k := 1) (s' := (if l3 < r4 then (41, [some (vR 111), some (vI l1), some (vI l2), some (vI l3)], [], σ) else (76, [some (vR 111), some (vI l1), some (vI l2), some (vI l3)], [], σ))) rfl ?_
    refine run_ite hf (fun _ hf => ?_) (fun _ hf => ?_)
    · refine run_seg (k := 6) (s' := (51, [some (vR 111), some (vI l1), some (vI l2), some (vI l3)], [vI l3, vI (σ 113 683), vR 111], σ)) rfl ?_
      refine run_callN (w := fun a => some (vI a)) (m := 347) (as := [vR 111, vI (σ 113 683), vI l3]) (pc := 54) (ls := [some (vR 111), some (vI l1), some (vI l2), some (vI l3)]) (st' := []) (σ := σ) hf rfl (fun _ h => (c_M_holds h).mono (by decide)) (fun r5 hf => ?_)
      refine run_seg (k := 1) (s' := (if r5 = 0 then (57, [some (vR 111), some (vI l1), some (vI l2), some (vI l3)], [], σ) else (60, [some (vR 111), some (vI l1), some (vI l2), some (vI l3)], [], σ))) rfl ?_
      refine run_ite hf (fun _ hf => ?_) (fun _ hf => ?_)
      · refine run_seg (k := 2) (s' := (73, [some (vR 111), some (vI l1), some (vI l2), some (vI (w32 (l3 + 1)))], [], σ)) rfl ?_
        refine run_let (fun x6 => (73, [some (vR 111), some (vI l1), some (vI l2), some (vI x6)], [], σ)) hf (fun x6 hf => ?_)
        refine run_seg (k := 1) (s' := (33, [some (vR 111), some (vI l1), some (vI l2), some (vI x6)], [], σ)) rfl ?_
        exact ih hf
      · refine run_seg (k := 3) (s' := (if l2 = l1 then (65, [some (vR 111), some (vI l1), some (vI l2), some (vI l3)], [], σ) else (67, [some (vR 111), some (vI l1), some (vI l2), some (vI l3)], [], σ))) rfl ?_
        refine run_ite hf (fun _ hf => ?_) (fun _ hf => ?_)
        · refine run_seg (k := 1) (s' := (66, [some (vR 111), some (vI l1), some (vI l2), some (vI l3)], [vI l3], σ)) rfl ?_
          exact run_ret hf rfl
        · refine run_seg (k := 1) (s' := (70, [some (vR 111), some (vI l1), some (vI (w32 (l2 + 1))), some (vI l3)], [], σ)) rfl ?_
          refine run_let (fun x7 => (70, [some (vR 111), some (vI l1), some (vI x7), some (vI l3)], [], σ)) hf (fun x7 hf => ?_)
          refine run_seg (k := 1) (s' := (73, [some (vR 111), some (vI l1), some (vI x7), some (vI (w32 (l3 + 1)))], [], σ)) rfl ?_
          refine run_let (fun x8 => (73, [some (vR 111), some (vI l1), some (vI x7), some (vI x8)], [], σ)) hf (fun x8 hf => ?_)
          refine run_seg (k := 1) (s' := (33, [some (vR 111), some (vI l1), some (vI x7), some (vI x8)], [], σ)) rfl ?_
          exact ih hf
    · refine run_seg (k := 3) (s' := (if l1 = (-1) then (81, [some (vR 111), some (vI l1), some (vI l2), some (vI l3)], [], σ) else (85, [some (vR 111), some (vI l1), some (vI l2), some (vI l3)], [], σ))) rfl ?_
      refine run_ite hf (fun _ hf => ?_) (fun _ hf => ?_)
      · refine run_seg (k := 2) (s' := (86, [some (vR 111), some (vI l1), some (vI l2), some (vI l3)], [vI l2], σ)) rfl ?_
        exact run_ret hf rfl
      · refine run_seg (k := 1) (s' := (86, [some (vR 111), some (vI l1), some (vI l2), some (vI l3)], [vI (-1)], σ)) rfl ?_
        exact run_ret hf rfl
theorem c_M_said {p1 : Int} {σ : xSt} {r : Int × xSt} (hf : f_M_said p1 σ = some r) : Call (62 + 1) 348 [vR 111, vI p1] σ (tIW r).1 (tIW r).2 := by
  unfold f_M_said at hf
  refine call_of (own := 12) (rk := 1) (cd := kX12_said) (ls := [some (vR 111), some (vI p1), none, none]) (rT := tIW) rfl rfl rfl rfl rfl ?_
  refine run_seg (k := 3) (s' := (5, [some (vR 111), some (vI p1), none, none], [], upS σ 111 0 0)) rfl ?_
  refine run_let (fun σ1 => (5, [some (vR 111), some (vI p1), none, none], [], σ1)) hf (fun σ1 hf => ?_)
  refine run_seg (k := 5) (s' := (if σ1 113 682 = 0 then (23, [some (vR 111), some (vI p1), none, none], [], σ1) else (16, [some (vR 111), some (vI p1), none, none], [], σ1))) rfl ?_
  refine run_ite hf (fun _ hf => ?_) (fun _ hf => ?_)
  · refine run_seg (k := 1) (s' := (24, [some (vR 111), some (vI p1), none, none], [vI (-1)], σ1)) rfl ?_
    exact run_ret hf rfl
  · refine run_seg (k := 1) (s' := (17, [some (vR 111), some (vI p1), none, none], [vR 111], σ1)) rfl ?_
    refine run_callN (w := fun a => some (vI a)) (m := 263) (as := [vR 111]) (pc := 20) (ls := [some (vR 111), some (vI p1), none, none]) (st' := []) (σ := σ1) hf rfl (fun _ h => (c_M_hasWay h).mono (by decide)) (fun r2 hf => ?_)
    refine run_seg (k := 1) (s' := (if r2 = 0 then (23, [some (vR 111), some (vI p1), none, none], [], σ1) else (25, [some (vR 111), some (vI p1), none, none], [], σ1))) rfl ?_
    refine run_ite hf (fun _ hf => ?_) (fun _ hf => ?_)
    · refine run_seg (k := 1) (s' := (24, [some (vR 111), some (vI p1), none, none], [vI (-1)], σ1)) rfl ?_
      exact run_ret hf rfl
    · refine run_seg (k := 1) (s' := (26, [some (vR 111), some (vI p1), none, none], [vR 111], σ1)) rfl ?_
      refine run_callV (m := 278) (as := [vR 111]) (pc := 29) (ls := [some (vR 111), some (vI p1), none, none]) (st' := []) (σ := σ1) hf rfl (fun _ h => (c_M_layPowers h).mono (by decide)) (fun σ3 hf => ?_)
      refine run_seg (k := 4) (s' := (33, [some (vR 111), some (vI p1), some (vI 0), some (vI 0)], [], σ3)) rfl ?_
      exact r_M_said_33 1000000 hf
def f_M_image_55 : Nat → Int → Int → xSt → Option (Int × xSt)
  | 0, _, _, _ => none
  | n + 1, l1, l2, σ =>
    if l2 < 9 then (if 0 ≤ l2 ∧ l2 < 9 then (
    if 0 ≤ w32 ((w32 (9 * l1)) + l2) ∧ w32 ((w32 (9 * l1)) + l2) < 18 then (
    xlet (upS σ 119 (w32 ((w32 (9 * l1)) + l2)).toNat (σ 117 l2.toNat)) fun σ6 =>
    xlet (w32 (l2 + 1)) fun x7 =>
    f_M_image_55 n l1 x7 σ6) else none) else none)
    else (if 0 ≤ l1 ∧ l1 < 2 then (
    xlet (upS σ 120 l1.toNat 1) fun σ8 =>
    some (1, σ8)) else none)
def f_M_image_22 : Nat → Int → Int → xSt → Option (Int × xSt)
  | 0, _, _, _ => none
  | n + 1, l1, l2, σ =>
    if l2 < 924 then (if 0 ≤ l2 ∧ l2 < 924 then (
    if 0 ≤ w32 ((w32 (924 * l1)) + l2) ∧ w32 ((w32 (924 * l1)) + l2) < 1848 then (
    xlet (upS σ 116 (w32 ((w32 (924 * l1)) + l2)).toNat (σ 113 l2.toNat)) fun σ4 =>
    xlet (w32 (l2 + 1)) fun x5 =>
    f_M_image_22 n l1 x5 σ4) else none) else none)
    else (f_M_image_55 1000000 l1 0 σ)
/-- BentPennyModel.image(I)Z -/
def f_M_image (p1 : Int) (σ : xSt) : Option (Int × xSt) :=
  xlet (upS σ 111 0 0) fun σ1 =>
  xbR (f_M_lay σ1) fun σ2 =>
  xbR (f_M_isIn p1 0 1 σ2) fun r3 =>
  if r3 = 0 then (some (0, σ2))
  else (f_M_image_22 1000000 p1 0 σ2)
theorem r_M_image_55 : ∀ (n : Nat) {l1 : Int} {l2 : Int} {σ : xSt} {r : Int × xSt}, f_M_image_55 n l1 l2 σ = some r → Run 1 12 2 kX12_image (55, [some (vR 111), some (vI l1), some (vI l2)], [], σ) (tIW r) := by
  intro n
  induction n with
  | zero =>
    intro _ _ _ _ h
    exact nomatch (show (none : Option (Int × xSt)) = some _ from h)
  | succ n ih =>
    intro l1 l2 σ r hf
    unfold f_M_image_55 at hf
    refine run_seg (k := 3) (s' := (if l2 < 9 then (61, [some (vR 111), some (vI l1), some (vI l2)], [], σ) else (84, [some (vR 111), some (vI l1), some (vI l2)], [], σ))) rfl ?_
    refine run_ite hf (fun _ hf => ?_) (fun _ hf => ?_)
    · refine run_seg (k := 10) (s' := (76, [some (vR 111), some (vI l1), some (vI l2)], [vI l2, vR 117, vI (w32 ((w32 (9 * l1)) + l2)), vR 119], σ)) rfl ?_
      refine run_guard (s' := (77, [some (vR 111), some (vI l1), some (vI l2)], [vL (σ 117 l2.toNat), vI (w32 ((w32 (9 * l1)) + l2)), vR 119], σ)) hf rfl (fun hf => ?_)
      refine run_guard (s' := (78, [some (vR 111), some (vI l1), some (vI l2)], [], upS σ 119 (w32 ((w32 (9 * l1)) + l2)).toNat (σ 117 l2.toNat))) hf rfl (fun hf => ?_)
      refine run_let (fun σ6 => (78, [some (vR 111), some (vI l1), some (vI l2)], [], σ6)) hf (fun σ6 hf => ?_)
      refine run_seg (k := 1) (s' := (81, [some (vR 111), some (vI l1), some (vI (w32 (l2 + 1)))], [], σ6)) rfl ?_
      refine run_let (fun x7 => (81, [some (vR 111), some (vI l1), some (vI x7)], [], σ6)) hf (fun x7 hf => ?_)
      refine run_seg (k := 1) (s' := (55, [some (vR 111), some (vI l1), some (vI x7)], [], σ6)) rfl ?_
      exact ih hf
    · refine run_seg (k := 4) (s' := (90, [some (vR 111), some (vI l1), some (vI l2)], [vI 1, vI l1, vR 120], σ)) rfl ?_
      refine run_guard (s' := (91, [some (vR 111), some (vI l1), some (vI l2)], [], upS σ 120 l1.toNat 1)) hf rfl (fun hf => ?_)
      refine run_let (fun σ8 => (91, [some (vR 111), some (vI l1), some (vI l2)], [], σ8)) hf (fun σ8 hf => ?_)
      refine run_seg (k := 1) (s' := (92, [some (vR 111), some (vI l1), some (vI l2)], [vI 1], σ8)) rfl ?_
      exact run_ret hf rfl
theorem r_M_image_22 : ∀ (n : Nat) {l1 : Int} {l2 : Int} {σ : xSt} {r : Int × xSt}, f_M_image_22 n l1 l2 σ = some r → Run 1 12 2 kX12_image (22, [some (vR 111), some (vI l1), some (vI l2)], [], σ) (tIW r) := by
  intro n
  induction n with
  | zero =>
    intro _ _ _ _ h
    exact nomatch (show (none : Option (Int × xSt)) = some _ from h)
  | succ n ih =>
    intro l1 l2 σ r hf
    unfold f_M_image_22 at hf
    refine run_seg (k := 3) (s' := (if l2 < 924 then (29, [some (vR 111), some (vI l1), some (vI l2)], [], σ) else (53, [some (vR 111), some (vI l1), some (vI l2)], [], σ))) rfl ?_
    refine run_ite hf (fun _ hf => ?_) (fun _ hf => ?_)
    · refine run_seg (k := 10) (s' := (45, [some (vR 111), some (vI l1), some (vI l2)], [vI l2, vR 113, vI (w32 ((w32 (924 * l1)) + l2)), vR 116], σ)) rfl ?_
      refine run_guard (s' := (46, [some (vR 111), some (vI l1), some (vI l2)], [vI (σ 113 l2.toNat), vI (w32 ((w32 (924 * l1)) + l2)), vR 116], σ)) hf rfl (fun hf => ?_)
      refine run_guard (s' := (47, [some (vR 111), some (vI l1), some (vI l2)], [], upS σ 116 (w32 ((w32 (924 * l1)) + l2)).toNat (σ 113 l2.toNat))) hf rfl (fun hf => ?_)
      refine run_let (fun σ4 => (47, [some (vR 111), some (vI l1), some (vI l2)], [], σ4)) hf (fun σ4 hf => ?_)
      refine run_seg (k := 1) (s' := (50, [some (vR 111), some (vI l1), some (vI (w32 (l2 + 1)))], [], σ4)) rfl ?_
      refine run_let (fun x5 => (50, [some (vR 111), some (vI l1), some (vI x5)], [], σ4)) hf (fun x5 hf => ?_)
      refine run_seg (k := 1) (s' := (22, [some (vR 111), some (vI l1), some (vI x5)], [], σ4)) rfl ?_
      exact ih hf
    · refine run_seg (k := 2) (s' := (55, [some (vR 111), some (vI l1), some (vI 0)], [], σ)) rfl ?_
      exact r_M_image_55 1000000 hf
theorem c_M_image {p1 : Int} {σ : xSt} {r : Int × xSt} (hf : f_M_image p1 σ = some r) : Call (1 + 1) 349 [vR 111, vI p1] σ (tIW r).1 (tIW r).2 := by
  unfold f_M_image at hf
  refine call_of (own := 12) (rk := 2) (cd := kX12_image) (ls := [some (vR 111), some (vI p1), none]) (rT := tIW) rfl rfl rfl rfl rfl ?_
  refine run_seg (k := 3) (s' := (5, [some (vR 111), some (vI p1), none], [], upS σ 111 0 0)) rfl ?_
  refine run_let (fun σ1 => (5, [some (vR 111), some (vI p1), none], [], σ1)) hf (fun σ1 hf => ?_)
  refine run_seg (k := 1) (s' := (6, [some (vR 111), some (vI p1), none], [vR 111], σ1)) rfl ?_
  refine run_callV (m := 233) (as := [vR 111]) (pc := 9) (ls := [some (vR 111), some (vI p1), none]) (st' := []) (σ := σ1) hf rfl (fun _ h => (c_M_lay h).mono (by decide)) (fun σ2 hf => ?_)
  refine run_seg (k := 3) (s' := (12, [some (vR 111), some (vI p1), none], [vI 1, vI 0, vI p1], σ2)) rfl ?_
  refine run_callN (w := fun a => some (vI a)) (m := 216) (as := [vI p1, vI 0, vI 1]) (pc := 15) (ls := [some (vR 111), some (vI p1), none]) (st' := []) (σ := σ2) hf rfl (fun _ h => (c_M_isIn h).mono (by decide)) (fun r3 hf => ?_)
  refine run_seg (k := 1) (s' := (if r3 = 0 then (18, [some (vR 111), some (vI p1), none], [], σ2) else (20, [some (vR 111), some (vI p1), none], [], σ2))) rfl ?_
  refine run_ite hf (fun _ hf => ?_) (fun _ hf => ?_)
  · refine run_seg (k := 1) (s' := (19, [some (vR 111), some (vI p1), none], [vI 0], σ2)) rfl ?_
    exact run_ret hf rfl
  · refine run_seg (k := 2) (s' := (22, [some (vR 111), some (vI p1), some (vI 0)], [], σ2)) rfl ?_
    exact r_M_image_22 1000000 hf
def f_M_restore_64 : Nat → Int → Int → xSt → Option (Int × xSt)
  | 0, _, _, _ => none
  | n + 1, l1, l2, σ =>
    if l2 < 9 then (if 0 ≤ w32 ((w32 (9 * l1)) + l2) ∧ w32 ((w32 (9 * l1)) + l2) < 18 then (
    if 0 ≤ l2 ∧ l2 < 9 then (
    xlet (upS σ 117 l2.toNat (σ 119 (w32 ((w32 (9 * l1)) + l2)).toNat)) fun σ6 =>
    xlet (w32 (l2 + 1)) fun x7 =>
    f_M_restore_64 n l1 x7 σ6) else none) else none)
    else (some (1, σ))
def f_M_restore_31 : Nat → Int → Int → xSt → Option (Int × xSt)
  | 0, _, _, _ => none
  | n + 1, l1, l2, σ =>
    if l2 < 924 then (if 0 ≤ w32 ((w32 (924 * l1)) + l2) ∧ w32 ((w32 (924 * l1)) + l2) < 1848 then (
    if 0 ≤ l2 ∧ l2 < 924 then (
    xlet (upS σ 113 l2.toNat (σ 116 (w32 ((w32 (924 * l1)) + l2)).toNat)) fun σ4 =>
    xlet (w32 (l2 + 1)) fun x5 =>
    f_M_restore_31 n l1 x5 σ4) else none) else none)
    else (f_M_restore_64 1000000 l1 0 σ)
/-- BentPennyModel.restore(I)Z -/
def f_M_restore (p1 : Int) (σ : xSt) : Option (Int × xSt) :=
  xlet (upS σ 111 0 0) fun σ1 =>
  xbR (f_M_lay σ1) fun σ2 =>
  xbR (f_M_isIn p1 0 1 σ2) fun r3 =>
  if r3 = 0 then (some (0, σ2))
  else (if 0 ≤ p1 ∧ p1 < 2 then (
  if σ2 120 p1.toNat = 0 then (some (0, σ2))
  else (f_M_restore_31 1000000 p1 0 σ2)) else none)
theorem r_M_restore_64 : ∀ (n : Nat) {l1 : Int} {l2 : Int} {σ : xSt} {r : Int × xSt}, f_M_restore_64 n l1 l2 σ = some r → Run 1 12 2 kX12_restore (64, [some (vR 111), some (vI l1), some (vI l2)], [], σ) (tIW r) := by
  intro n
  induction n with
  | zero =>
    intro _ _ _ _ h
    exact nomatch (show (none : Option (Int × xSt)) = some _ from h)
  | succ n ih =>
    intro l1 l2 σ r hf
    unfold f_M_restore_64 at hf
    refine run_seg (k := 3) (s' := (if l2 < 9 then (70, [some (vR 111), some (vI l1), some (vI l2)], [], σ) else (93, [some (vR 111), some (vI l1), some (vI l2)], [], σ))) rfl ?_
    refine run_ite hf (fun _ hf => ?_) (fun _ hf => ?_)
    · refine run_seg (k := 10) (s' := (85, [some (vR 111), some (vI l1), some (vI l2)], [vI (w32 ((w32 (9 * l1)) + l2)), vR 119, vI l2, vR 117], σ)) rfl ?_
      refine run_guard (s' := (86, [some (vR 111), some (vI l1), some (vI l2)], [vL (σ 119 (w32 ((w32 (9 * l1)) + l2)).toNat), vI l2, vR 117], σ)) hf rfl (fun hf => ?_)
      refine run_guard (s' := (87, [some (vR 111), some (vI l1), some (vI l2)], [], upS σ 117 l2.toNat (σ 119 (w32 ((w32 (9 * l1)) + l2)).toNat))) hf rfl (fun hf => ?_)
      refine run_let (fun σ6 => (87, [some (vR 111), some (vI l1), some (vI l2)], [], σ6)) hf (fun σ6 hf => ?_)
      refine run_seg (k := 1) (s' := (90, [some (vR 111), some (vI l1), some (vI (w32 (l2 + 1)))], [], σ6)) rfl ?_
      refine run_let (fun x7 => (90, [some (vR 111), some (vI l1), some (vI x7)], [], σ6)) hf (fun x7 hf => ?_)
      refine run_seg (k := 1) (s' := (64, [some (vR 111), some (vI l1), some (vI x7)], [], σ6)) rfl ?_
      exact ih hf
    · refine run_seg (k := 1) (s' := (94, [some (vR 111), some (vI l1), some (vI l2)], [vI 1], σ)) rfl ?_
      exact run_ret hf rfl
theorem r_M_restore_31 : ∀ (n : Nat) {l1 : Int} {l2 : Int} {σ : xSt} {r : Int × xSt}, f_M_restore_31 n l1 l2 σ = some r → Run 1 12 2 kX12_restore (31, [some (vR 111), some (vI l1), some (vI l2)], [], σ) (tIW r) := by
  intro n
  induction n with
  | zero =>
    intro _ _ _ _ h
    exact nomatch (show (none : Option (Int × xSt)) = some _ from h)
  | succ n ih =>
    intro l1 l2 σ r hf
    unfold f_M_restore_31 at hf
    refine run_seg (k := 3) (s' := (if l2 < 924 then (38, [some (vR 111), some (vI l1), some (vI l2)], [], σ) else (62, [some (vR 111), some (vI l1), some (vI l2)], [], σ))) rfl ?_
    refine run_ite hf (fun _ hf => ?_) (fun _ hf => ?_)
    · refine run_seg (k := 10) (s' := (54, [some (vR 111), some (vI l1), some (vI l2)], [vI (w32 ((w32 (924 * l1)) + l2)), vR 116, vI l2, vR 113], σ)) rfl ?_
      refine run_guard (s' := (55, [some (vR 111), some (vI l1), some (vI l2)], [vI (σ 116 (w32 ((w32 (924 * l1)) + l2)).toNat), vI l2, vR 113], σ)) hf rfl (fun hf => ?_)
      refine run_guard (s' := (56, [some (vR 111), some (vI l1), some (vI l2)], [], upS σ 113 l2.toNat (σ 116 (w32 ((w32 (924 * l1)) + l2)).toNat))) hf rfl (fun hf => ?_)
      refine run_let (fun σ4 => (56, [some (vR 111), some (vI l1), some (vI l2)], [], σ4)) hf (fun σ4 hf => ?_)
      refine run_seg (k := 1) (s' := (59, [some (vR 111), some (vI l1), some (vI (w32 (l2 + 1)))], [], σ4)) rfl ?_
      refine run_let (fun x5 => (59, [some (vR 111), some (vI l1), some (vI x5)], [], σ4)) hf (fun x5 hf => ?_)
      refine run_seg (k := 1) (s' := (31, [some (vR 111), some (vI l1), some (vI x5)], [], σ4)) rfl ?_
      exact ih hf
    · refine run_seg (k := 2) (s' := (64, [some (vR 111), some (vI l1), some (vI 0)], [], σ)) rfl ?_
      exact r_M_restore_64 1000000 hf
theorem c_M_restore {p1 : Int} {σ : xSt} {r : Int × xSt} (hf : f_M_restore p1 σ = some r) : Call (1 + 1) 350 [vR 111, vI p1] σ (tIW r).1 (tIW r).2 := by
  unfold f_M_restore at hf
  refine call_of (own := 12) (rk := 2) (cd := kX12_restore) (ls := [some (vR 111), some (vI p1), none]) (rT := tIW) rfl rfl rfl rfl rfl ?_
  refine run_seg (k := 3) (s' := (5, [some (vR 111), some (vI p1), none], [], upS σ 111 0 0)) rfl ?_
  refine run_let (fun σ1 => (5, [some (vR 111), some (vI p1), none], [], σ1)) hf (fun σ1 hf => ?_)
  refine run_seg (k := 1) (s' := (6, [some (vR 111), some (vI p1), none], [vR 111], σ1)) rfl ?_
  refine run_callV (m := 233) (as := [vR 111]) (pc := 9) (ls := [some (vR 111), some (vI p1), none]) (st' := []) (σ := σ1) hf rfl (fun _ h => (c_M_lay h).mono (by decide)) (fun σ2 hf => ?_)
  refine run_seg (k := 3) (s' := (12, [some (vR 111), some (vI p1), none], [vI 1, vI 0, vI p1], σ2)) rfl ?_
  refine run_callN (w := fun a => some (vI a)) (m := 216) (as := [vI p1, vI 0, vI 1]) (pc := 15) (ls := [some (vR 111), some (vI p1), none]) (st' := []) (σ := σ2) hf rfl (fun _ h => (c_M_isIn h).mono (by decide)) (fun r3 hf => ?_)
  refine run_seg (k := 1) (s' := (if r3 = 0 then (27, [some (vR 111), some (vI p1), none], [], σ2) else (18, [some (vR 111), some (vI p1), none], [], σ2))) rfl ?_
  refine run_ite hf (fun _ hf => ?_) (fun _ hf => ?_)
  · refine run_seg (k := 1) (s' := (28, [some (vR 111), some (vI p1), none], [vI 0], σ2)) rfl ?_
    exact run_ret hf rfl
  · refine run_seg (k := 3) (s' := (23, [some (vR 111), some (vI p1), none], [vI p1, vR 120], σ2)) rfl ?_
    refine run_guard (s' := (24, [some (vR 111), some (vI p1), none], [vI (σ2 120 p1.toNat)], σ2)) hf rfl (fun hf => ?_)
    refine run_seg (k := 1) (s' := (if σ2 120 p1.toNat = 0 then (27, [some (vR 111), some (vI p1), none], [], σ2) else (29, [some (vR 111), some (vI p1), none], [], σ2))) rfl ?_
    refine run_ite hf (fun _ hf => ?_) (fun _ hf => ?_)
    · refine run_seg (k := 1) (s' := (28, [some (vR 111), some (vI p1), none], [vI 0], σ2)) rfl ?_
      exact run_ret hf rfl
    · refine run_seg (k := 2) (s' := (31, [some (vR 111), some (vI p1), some (vI 0)], [], σ2)) rfl ?_
      exact r_M_restore_31 1000000 hf
