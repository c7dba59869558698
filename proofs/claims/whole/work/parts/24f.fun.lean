/-! printed by wip/whole/all16.py: what the methods compute, and that the reader does so -/
/-- BentPennyModel.isIn(III)Z -/
def f_M_isIn (p0 : Int) (p1 : Int) (p2 : Int) (σ : xSt) : Option (Int) :=
  if p0 < p1 then (some 0)
  else (if p2 < p0 then (some 0)
  else (some 1))
theorem c_M_isIn {p0 : Int} {p1 : Int} {p2 : Int} {σ : xSt} {r : Int} (hf : f_M_isIn p0 p1 p2 σ = some r) : Call (0 + 1) 216 [vI p0, vI p1, vI p2] σ ((tI σ) r).1 ((tI σ) r).2 := by
  unfold f_M_isIn at hf
  refine call_of (own := 12) (rk := 2) (cd := kX12_isIn) (ls := [some (vI p0), some (vI p1), some (vI p2)]) (rT := (tI σ)) rfl rfl rfl rfl rfl ?_
  refine run_seg (k := 3) (s' := (if p0 < p1 then (14, [some (vI p0), some (vI p1), some (vI p2)], [], σ) else (5, [some (vI p0), some (vI p1), some (vI p2)], [], σ))) rfl ?_
  refine run_ite hf (fun _ hf => ?_) (fun _ hf => ?_)
  · refine run_seg (k := 1) (s' := (15, [some (vI p0), some (vI p1), some (vI p2)], [vI 0], σ)) rfl ?_
    exact run_ret hf rfl
  · refine run_seg (k := 3) (s' := (if p2 < p0 then (14, [some (vI p0), some (vI p1), some (vI p2)], [], σ) else (10, [some (vI p0), some (vI p1), some (vI p2)], [], σ))) rfl ?_
    refine run_ite hf (fun _ hf => ?_) (fun _ hf => ?_)
    · refine run_seg (k := 1) (s' := (15, [some (vI p0), some (vI p1), some (vI p2)], [vI 0], σ)) rfl ?_
      exact run_ret hf rfl
    · refine run_seg (k := 2) (s' := (15, [some (vI p0), some (vI p1), some (vI p2)], [vI 1], σ)) rfl ?_
      exact run_ret hf rfl
/-- BentPennyModel.readNumber(II)Z -/
def f_M_readNumber (p1 : Int) (p2 : Int) (σ : xSt) : Option (Int × xSt) :=
  if σ 111 7 = 3 then (xbR (f_M_isIn (σ 111 8) p1 p2 σ) fun r1 =>
  if r1 = 0 then (xbW (f_M_bad 2 σ) fun r2 σ3 =>
  some (xnb r2, σ3))
  else (xlet (upS σ 111 13 (σ 111 8)) fun σ4 =>
  xbR (f_M_go σ4) fun σ5 =>
  some (1, σ5)))
  else (xbW (f_M_bad 1 σ) fun r6 σ7 =>
  some (xnb r6, σ7))
theorem c_M_readNumber {p1 : Int} {p2 : Int} {σ : xSt} {r : Int × xSt} (hf : f_M_readNumber p1 p2 σ = some r) : Call (2 + 1) 230 [vR 111, vI p1, vI p2] σ (tIW r).1 (tIW r).2 := by
  unfold f_M_readNumber at hf
  refine call_of (own := 12) (rk := 2) (cd := kX12_readNumber) (ls := [some (vR 111), some (vI p1), some (vI p2)]) (rT := tIW) rfl rfl rfl rfl rfl ?_
  refine run_seg (k := 4) (s' := (if σ 111 7 = 3 then (14, [some (vR 111), some (vI p1), some (vI p2)], [], σ) else (8, [some (vR 111), some (vI p1), some (vI p2)], [], σ))) rfl ?_
  refine run_ite hf (fun _ hf => ?_) (fun _ hf => ?_)
  · refine run_seg (k := 4) (s' := (20, [some (vR 111), some (vI p1), some (vI p2)], [vI p2, vI p1, vI (σ 111 8)], σ)) rfl ?_
    refine run_callN (w := fun a => some (vI a)) (m := 216) (as := [vI (σ 111 8), vI p1, vI p2]) (pc := 23) (ls := [some (vR 111), some (vI p1), some (vI p2)]) (st' := []) (σ := σ) hf rfl (fun _ h => (c_M_isIn h).mono (by decide)) (fun r1 hf => ?_)
    refine run_seg (k := 1) (s' := (if r1 = 0 then (26, [some (vR 111), some (vI p1), some (vI p2)], [], σ) else (32, [some (vR 111), some (vI p1), some (vI p2)], [], σ))) rfl ?_
    refine run_ite hf (fun _ hf => ?_) (fun _ hf => ?_)
    · refine run_seg (k := 2) (s' := (28, [some (vR 111), some (vI p1), some (vI p2)], [vI 2, vR 111], σ)) rfl ?_
      refine run_callW (w := fun a => some (vI a)) (m := 229) (as := [vR 111, vI 2]) (pc := 31) (ls := [some (vR 111), some (vI p1), some (vI p2)]) (st' := []) (σ := σ) hf rfl (fun _ _ h => (c_M_bad h).mono (by decide)) (fun r2 σ3 hf => ?_)
      exact run_ret hf rfl
    · refine run_seg (k := 4) (s' := (40, [some (vR 111), some (vI p1), some (vI p2)], [], upS σ 111 13 (σ 111 8))) rfl ?_
      refine run_let (fun σ4 => (40, [some (vR 111), some (vI p1), some (vI p2)], [], σ4)) hf (fun σ4 hf => ?_)
      refine run_seg (k := 1) (s' := (41, [some (vR 111), some (vI p1), some (vI p2)], [vR 111], σ4)) rfl ?_
      refine run_callV (m := 223) (as := [vR 111]) (pc := 44) (ls := [some (vR 111), some (vI p1), some (vI p2)]) (st' := []) (σ := σ4) hf rfl (fun _ h => (c_M_go h).mono (by decide)) (fun σ5 hf => ?_)
      refine run_seg (k := 1) (s' := (45, [some (vR 111), some (vI p1), some (vI p2)], [vI 1], σ5)) rfl ?_
      exact run_ret hf rfl
  · refine run_seg (k := 2) (s' := (10, [some (vR 111), some (vI p1), some (vI p2)], [vI 1, vR 111], σ)) rfl ?_
    refine run_callW (w := fun a => some (vI a)) (m := 229) (as := [vR 111, vI 1]) (pc := 13) (ls := [some (vR 111), some (vI p1), some (vI p2)]) (st' := []) (σ := σ) hf rfl (fun _ _ h => (c_M_bad h).mono (by decide)) (fun r6 σ7 hf => ?_)
    exact run_ret hf rfl
/-- BentPennyModel.readSign(I)Z -/
def f_M_readSign (p1 : Int) (σ : xSt) : Option (Int × xSt) :=
  xbR (f_M_isSign p1 σ) fun r1 =>
  if r1 = 0 then (xbW (f_M_bad 1 σ) fun r2 σ3 =>
  some (xnb r2, σ3))
  else (xbR (f_M_go σ) fun σ4 =>
  some (1, σ4))
theorem c_M_readSign {p1 : Int} {σ : xSt} {r : Int × xSt} (hf : f_M_readSign p1 σ = some r) : Call (2 + 1) 231 [vR 111, vI p1] σ (tIW r).1 (tIW r).2 := by
  unfold f_M_readSign at hf
  refine call_of (own := 12) (rk := 2) (cd := kX12_readSign) (ls := [some (vR 111), some (vI p1)]) (rT := tIW) rfl rfl rfl rfl rfl ?_
  refine run_seg (k := 2) (s' := (2, [some (vR 111), some (vI p1)], [vI p1, vR 111], σ)) rfl ?_
  refine run_callN (w := fun a => some (vI a)) (m := 227) (as := [vR 111, vI p1]) (pc := 5) (ls := [some (vR 111), some (vI p1)]) (st' := []) (σ := σ) hf rfl (fun _ h => (c_M_isSign h).mono (by decide)) (fun r1 hf => ?_)
  refine run_seg (k := 1) (s' := (if r1 = 0 then (8, [some (vR 111), some (vI p1)], [], σ) else (14, [some (vR 111), some (vI p1)], [], σ))) rfl ?_
  refine run_ite hf (fun _ hf => ?_) (fun _ hf => ?_)
  · refine run_seg (k := 2) (s' := (10, [some (vR 111), some (vI p1)], [vI 1, vR 111], σ)) rfl ?_
    refine run_callW (w := fun a => some (vI a)) (m := 229) (as := [vR 111, vI 1]) (pc := 13) (ls := [some (vR 111), some (vI p1)]) (st' := []) (σ := σ) hf rfl (fun _ _ h => (c_M_bad h).mono (by decide)) (fun r2 σ3 hf => ?_)
    exact run_ret hf rfl
  · refine run_seg (k := 1) (s' := (15, [some (vR 111), some (vI p1)], [vR 111], σ)) rfl ?_
    refine run_callV (m := 223) (as := [vR 111]) (pc := 18) (ls := [some (vR 111), some (vI p1)]) (st' := []) (σ := σ) hf rfl (fun _ h => (c_M_go h).mono (by decide)) (fun σ4 hf => ?_)
    refine run_seg (k := 1) (s' := (19, [some (vR 111), some (vI p1)], [vI 1], σ4)) rfl ?_
    exact run_ret hf rfl
/-- BentPennyModel.lay()V -/
def f_M_lay (σ : xSt) : Option (xSt) :=
  if σ 111 22 = 0 then (xlet (upS σ 111 22 1) fun σ1 =>
  xlet (upS σ1 113 2 (-1)) fun σ2 =>
  some σ2)
  else (some σ)
theorem c_M_lay {σ : xSt} {r : xSt} (hf : f_M_lay σ = some r) : Call (0 + 1) 233 [vR 111] σ (tV r).1 (tV r).2 := by
  unfold f_M_lay at hf
  refine call_of (own := 12) (rk := 0) (cd := kX12_lay) (ls := [some (vR 111)]) (rT := tV) rfl rfl rfl rfl rfl ?_
  refine run_seg (k := 3) (s' := (if σ 111 22 = 0 then (8, [some (vR 111)], [], σ) else (7, [some (vR 111)], [], σ))) rfl ?_
  refine run_ite hf (fun _ hf => ?_) (fun _ hf => ?_)
  · refine run_seg (k := 3) (s' := (13, [some (vR 111)], [], upS σ 111 22 1)) rfl ?_
    refine run_let (fun σ1 => (13, [some (vR 111)], [], σ1)) hf (fun σ1 hf => ?_)
    refine run_seg (k := 5) (s' := (20, [some (vR 111)], [], upS σ1 113 2 (-1))) rfl ?_
    refine run_let (fun σ2 => (20, [some (vR 111)], [], σ2)) hf (fun σ2 hf => ?_)
    exact run_ret hf rfl
  · exact run_ret hf rfl
/-- BentPennyModel.begin(I)V -/
def f_M_begin (p1 : Int) (σ : xSt) : Option (xSt) :=
  xlet (upS σ 111 0 0) fun σ1 =>
  xbR (f_M_lay σ1) fun σ2 =>
  xbW (f_M_gather σ2) fun r3 σ4 =>
  xlet (upS σ4 111 3 r3) fun σ5 =>
  xlet (upS σ5 111 4 p1) fun σ6 =>
  xlet (upS σ6 111 10 0) fun σ7 =>
  xlet (upS σ7 111 5 0) fun σ8 =>
  xbR (f_M_go σ8) fun σ9 =>
  some σ9
theorem c_M_begin {p1 : Int} {σ : xSt} {r : xSt} (hf : f_M_begin p1 σ = some r) : Call (2 + 1) 232 [vR 111, vI p1] σ (tV r).1 (tV r).2 := by
  unfold f_M_begin at hf
  refine call_of (own := 12) (rk := 0) (cd := kX12_begin) (ls := [some (vR 111), some (vI p1)]) (rT := tV) rfl rfl rfl rfl rfl ?_
  refine run_seg (k := 3) (s' := (5, [some (vR 111), some (vI p1)], [], upS σ 111 0 0)) rfl ?_
  refine run_let (fun σ1 => (5, [some (vR 111), some (vI p1)], [], σ1)) hf (fun σ1 hf => ?_)
  refine run_seg (k := 1) (s' := (6, [some (vR 111), some (vI p1)], [vR 111], σ1)) rfl ?_
  refine run_callV (m := 233) (as := [vR 111]) (pc := 9) (ls := [some (vR 111), some (vI p1)]) (st' := []) (σ := σ1) hf rfl (fun _ h => (c_M_lay h).mono (by decide)) (fun σ2 hf => ?_)
  refine run_seg (k := 2) (s' := (11, [some (vR 111), some (vI p1)], [vR 111, vR 111], σ2)) rfl ?_
  refine run_callW (w := fun a => some (vI a)) (m := 215) (as := [vR 111]) (pc := 14) (ls := [some (vR 111), some (vI p1)]) (st' := [vR 111]) (σ := σ2) hf rfl (fun _ _ h => (c_M_gather h).mono (by decide)) (fun r3 σ4 hf => ?_)
  refine run_seg (k := 1) (s' := (17, [some (vR 111), some (vI p1)], [], upS σ4 111 3 r3)) rfl ?_
  refine run_let (fun σ5 => (17, [some (vR 111), some (vI p1)], [], σ5)) hf (fun σ5 hf => ?_)
  refine run_seg (k := 3) (s' := (22, [some (vR 111), some (vI p1)], [], upS σ5 111 4 p1)) rfl ?_
  refine run_let (fun σ6 => (22, [some (vR 111), some (vI p1)], [], σ6)) hf (fun σ6 hf => ?_)
  refine run_seg (k := 3) (s' := (27, [some (vR 111), some (vI p1)], [], upS σ6 111 10 0)) rfl ?_
  refine run_let (fun σ7 => (27, [some (vR 111), some (vI p1)], [], σ7)) hf (fun σ7 hf => ?_)
  refine run_seg (k := 3) (s' := (32, [some (vR 111), some (vI p1)], [], upS σ7 111 5 0)) rfl ?_
  refine run_let (fun σ8 => (32, [some (vR 111), some (vI p1)], [], σ8)) hf (fun σ8 hf => ?_)
  refine run_seg (k := 1) (s' := (33, [some (vR 111), some (vI p1)], [vR 111], σ8)) rfl ?_
  refine run_callV (m := 223) (as := [vR 111]) (pc := 36) (ls := [some (vR 111), some (vI p1)]) (st' := []) (σ := σ8) hf rfl (fun _ h => (c_M_go h).mono (by decide)) (fun σ9 hf => ?_)
  exact run_ret hf rfl
def f_M_findIn_3 (a0 : Nat) : Nat → Int → Int → Int → Int → xSt → Option (Int)
  | 0, _, _, _, _, _ => none
  | n + 1, l1, l2, l3, l5, σ =>
    if l5 < l2 then (if 0 ≤ w32 (l1 + l5) ∧ w32 (l1 + l5) < 9 then (
    if xlc (σ a0 (w32 (l1 + l5)).toNat) l3 = 0 then (some l5)
    else (xlet (w32 (l5 + 1)) fun x1 =>
    f_M_findIn_3 a0 n l1 l2 l3 x1 σ)) else none)
    else (some (-1))
/-- BentPennyModel.findIn([JIIJ)I -/
def f_M_findIn (a0 : Nat) (p1 : Int) (p2 : Int) (p3 : Int) (σ : xSt) : Option (Int) :=
  f_M_findIn_3 a0 1000000 p1 p2 p3 0 σ
theorem r_M_findIn_3_117 : ∀ (n : Nat) {l1 : Int} {l2 : Int} {l3 : Int} {l5 : Int} {σ : xSt} {r : Int}, f_M_findIn_3 117 n l1 l2 l3 l5 σ = some r → Run 0 12 1 kX12_findIn (3, [some (vR 117), some (vI l1), some (vI l2), some (vL l3), none, some (vI l5)], [], σ) ((tI σ) r) := by
  intro n
  induction n with
  | zero =>
    intro _ _ _ _ _ _ h
    exact nomatch (show (none : Option (Int)) = some _ from h)
  | succ n ih =>
    intro l1 l2 l3 l5 σ r hf
    unfold f_M_findIn_3 at hf
    refine run_seg (k := 3) (s' := (if l5 < l2 then (9, [some (vR 117), some (vI l1), some (vI l2), some (vL l3), none, some (vI l5)], [], σ) else (29, [some (vR 117), some (vI l1), some (vI l2), some (vL l3), none, some (vI l5)], [], σ))) rfl ?_
    refine run_ite hf (fun _ hf => ?_) (fun _ hf => ?_)
    · refine run_seg (k := 4) (s' := (14, [some (vR 117), some (vI l1), some (vI l2), some (vL l3), none, some (vI l5)], [vI (w32 (l1 + l5)), vR 117], σ)) rfl ?_
      refine run_guard (s' := (15, [some (vR 117), some (vI l1), some (vI l2), some (vL l3), none, some (vI l5)], [vL (σ 117 (w32 (l1 + l5)).toNat)], σ)) hf rfl (fun hf => ?_)
      refine run_seg (k := 3) (s' := (if xlc (σ 117 (w32 (l1 + l5)).toNat) l3 = 0 then (20, [some (vR 117), some (vI l1), some (vI l2), some (vL l3), none, some (vI l5)], [], σ) else (23, [some (vR 117), some (vI l1), some (vI l2), some (vL l3), none, some (vI l5)], [], σ))) rfl ?_
      refine run_ite hf (fun _ hf => ?_) (fun _ hf => ?_)
      · refine run_seg (k := 1) (s' := (22, [some (vR 117), some (vI l1), some (vI l2), some (vL l3), none, some (vI l5)], [vI l5], σ)) rfl ?_
        exact run_ret hf rfl
      · refine run_seg (k := 1) (s' := (26, [some (vR 117), some (vI l1), some (vI l2), some (vL l3), none, some (vI (w32 (l5 + 1)))], [], σ)) rfl ?_
        refine run_let (fun x1 => (26, [some (vR 117), some (vI l1), some (vI l2), some (vL l3), none, some (vI x1)], [], σ)) hf (fun x1 hf => ?_)
        refine run_seg (k := 1) (s' := (3, [some (vR 117), some (vI l1), some (vI l2), some (vL l3), none, some (vI x1)], [], σ)) rfl ?_
        exact ih hf
    · refine run_seg (k := 1) (s' := (30, [some (vR 117), some (vI l1), some (vI l2), some (vL l3), none, some (vI l5)], [vI (-1)], σ)) rfl ?_
      exact run_ret hf rfl
theorem c_M_findIn_117 {p1 : Int} {p2 : Int} {p3 : Int} {σ : xSt} {r : Int} (hf : f_M_findIn 117 p1 p2 p3 σ = some r) : Call (0 + 1) 237 [vR 117, vI p1, vI p2, vL p3] σ ((tI σ) r).1 ((tI σ) r).2 := by
  unfold f_M_findIn at hf
  refine call_of (own := 12) (rk := 1) (cd := kX12_findIn) (ls := [some (vR 117), some (vI p1), some (vI p2), some (vL p3), none, none]) (rT := (tI σ)) rfl rfl rfl rfl rfl ?_
  refine run_seg (k := 2) (s' := (3, [some (vR 117), some (vI p1), some (vI p2), some (vL p3), none, some (vI 0)], [], σ)) rfl ?_
  exact r_M_findIn_3_117 1000000 hf
theorem r_M_findIn_3_118 : ∀ (n : Nat) {l1 : Int} {l2 : Int} {l3 : Int} {l5 : Int} {σ : xSt} {r : Int}, f_M_findIn_3 118 n l1 l2 l3 l5 σ = some r → Run 0 12 1 kX12_findIn (3, [some (vR 118), some (vI l1), some (vI l2), some (vL l3), none, some (vI l5)], [], σ) ((tI σ) r) := by
  intro n
  induction n with
  | zero =>
    intro _ _ _ _ _ _ h
    exact nomatch (show (none : Option (Int)) = some _ from h)
  | succ n ih =>
    intro l1 l2 l3 l5 σ r hf
    unfold f_M_findIn_3 at hf
    refine run_seg (k := 3) (s' := (if l5 < l2 then (9, [some (vR 118), some (vI l1), some (vI l2), some (vL l3), none, some (vI l5)], [], σ) else (29, [some (vR 118), some (vI l1), some (vI l2), some (vL l3), none, some (vI l5)], [], σ))) rfl ?_
    refine run_ite hf (fun _ hf => ?_) (fun _ hf => ?_)
    · refine run_seg (k := 4) (s' := (14, [some (vR 118), some (vI l1), some (vI l2), some (vL l3), none, some (vI l5)], [vI (w32 (l1 + l5)), vR 118], σ)) rfl ?_
      refine run_guard (s' := (15, [some (vR 118), some (vI l1), some (vI l2), some (vL l3), none, some (vI l5)], [vL (σ 118 (w32 (l1 + l5)).toNat)], σ)) hf rfl (fun hf => ?_)
      refine run_seg (k := 3) (s' := (if xlc (σ 118 (w32 (l1 + l5)).toNat) l3 = 0 then (20, [some (vR 118), some (vI l1), some (vI l2), some (vL l3), none, some (vI l5)], [], σ) else (23, [some (vR 118), some (vI l1), some (vI l2), some (vL l3), none, some (vI l5)], [], σ))) rfl ?_
      refine run_ite hf (fun _ hf => ?_) (fun _ hf => ?_)
      · refine run_seg (k := 1) (s' := (22, [some (vR 118), some (vI l1), some (vI l2), some (vL l3), none, some (vI l5)], [vI l5], σ)) rfl ?_
        exact run_ret hf rfl
      · refine run_seg (k := 1) (s' := (26, [some (vR 118), some (vI l1), some (vI l2), some (vL l3), none, some (vI (w32 (l5 + 1)))], [], σ)) rfl ?_
        refine run_let (fun x1 => (26, [some (vR 118), some (vI l1), some (vI l2), some (vL l3), none, some (vI x1)], [], σ)) hf (fun x1 hf => ?_)
        refine run_seg (k := 1) (s' := (3, [some (vR 118), some (vI l1), some (vI l2), some (vL l3), none, some (vI x1)], [], σ)) rfl ?_
        exact ih hf
    · refine run_seg (k := 1) (s' := (30, [some (vR 118), some (vI l1), some (vI l2), some (vL l3), none, some (vI l5)], [vI (-1)], σ)) rfl ?_
      exact run_ret hf rfl
theorem c_M_findIn_118 {p1 : Int} {p2 : Int} {p3 : Int} {σ : xSt} {r : Int} (hf : f_M_findIn 118 p1 p2 p3 σ = some r) : Call (0 + 1) 237 [vR 118, vI p1, vI p2, vL p3] σ ((tI σ) r).1 ((tI σ) r).2 := by
  unfold f_M_findIn at hf
  refine call_of (own := 12) (rk := 1) (cd := kX12_findIn) (ls := [some (vR 118), some (vI p1), some (vI p2), some (vL p3), none, none]) (rT := (tI σ)) rfl rfl rfl rfl rfl ?_
  refine run_seg (k := 2) (s' := (3, [some (vR 118), some (vI p1), some (vI p2), some (vL p3), none, some (vI 0)], [], σ)) rfl ?_
  exact r_M_findIn_3_118 1000000 hf
def f_M_readNew_57 (σ : xSt) : Option (Int × xSt) :=
  xbW (f_M_bad 3 σ) fun r8 σ9 =>
  some (xnb r8, σ9)
/-- BentPennyModel.readNew(I)Z -/
def f_M_readNew (p1 : Int) (σ : xSt) : Option (Int × xSt) :=
  xbR (f_M_isName σ) fun r1 =>
  if r1 = 0 then (xbW (f_M_bad 1 σ) fun r2 σ3 =>
  some (xnb r2, σ3))
  else (xbR (f_M_findIn 118 0 (σ 114 0) (σ 111 12) σ) fun r4 =>
  if r4 = (-1) then (xbR (f_M_findIn 118 3 (σ 114 1) (σ 111 12) σ) fun r5 =>
  if r5 = (-1) then (if 0 ≤ p1 ∧ p1 < 9 then (
  xlet (upS σ 118 p1.toNat (σ 111 12)) fun σ6 =>
  xbR (f_M_go σ6) fun σ7 =>
  some (1, σ7)) else none)
  else (f_M_readNew_57 σ))
  else (f_M_readNew_57 σ))
theorem r_M_readNew_57 {g1 : Option xV} {σ : xSt} {r : Int × xSt} (hf : f_M_readNew_57 σ = some r) : Run 3 12 2 kX12_readNew (57, [some (vR 111), g1], [], σ) (tIW r) := by
  unfold f_M_readNew_57 at hf
  refine run_seg (k := 2) (s' := (59, [some (vR 111), g1], [vI 3, vR 111], σ)) rfl ?_
  refine run_callW (w := fun a => some (vI a)) (m := 229) (as := [vR 111, vI 3]) (pc := 62) (ls := [some (vR 111), g1]) (st' := []) (σ := σ) hf rfl (fun _ _ h => (c_M_bad h).mono (by decide)) (fun r8 σ9 hf => ?_)
  exact run_ret hf rfl
theorem c_M_readNew {p1 : Int} {σ : xSt} {r : Int × xSt} (hf : f_M_readNew p1 σ = some r) : Call (3 + 1) 238 [vR 111, vI p1] σ (tIW r).1 (tIW r).2 := by
  unfold f_M_readNew at hf
  refine call_of (own := 12) (rk := 2) (cd := kX12_readNew) (ls := [some (vR 111), some (vI p1)]) (rT := tIW) rfl rfl rfl rfl rfl ?_
  refine run_seg (k := 1) (s' := (1, [some (vR 111), some (vI p1)], [vR 111], σ)) rfl ?_
  refine run_callN (w := fun a => some (vI a)) (m := 228) (as := [vR 111]) (pc := 4) (ls := [some (vR 111), some (vI p1)]) (st' := []) (σ := σ) hf rfl (fun _ h => (c_M_isName h).mono (by decide)) (fun r1 hf => ?_)
  refine run_seg (k := 1) (s' := (if r1 = 0 then (7, [some (vR 111), some (vI p1)], [], σ) else (13, [some (vR 111), some (vI p1)], [], σ))) rfl ?_
  refine run_ite hf (fun _ hf => ?_) (fun _ hf => ?_)
  · refine run_seg (k := 2) (s' := (9, [some (vR 111), some (vI p1)], [vI 1, vR 111], σ)) rfl ?_
    refine run_callW (w := fun a => some (vI a)) (m := 229) (as := [vR 111, vI 1]) (pc := 12) (ls := [some (vR 111), some (vI p1)]) (st' := []) (σ := σ) hf rfl (fun _ _ h => (c_M_bad h).mono (by decide)) (fun r2 σ3 hf => ?_)
    exact run_ret hf rfl
  · refine run_seg (k := 9) (s' := (28, [some (vR 111), some (vI p1)], [vL (σ 111 12), vI (σ 114 0), vI 0, vR 118], σ)) rfl ?_
    refine run_callN (w := fun a => some (vI a)) (m := 237) (as := [vR 118, vI 0, vI (σ 114 0), vL (σ 111 12)]) (pc := 31) (ls := [some (vR 111), some (vI p1)]) (st' := []) (σ := σ) hf rfl (fun _ h => (c_M_findIn_118 h).mono (by decide)) (fun r4 hf => ?_)
    refine run_seg (k := 2) (s' := (if r4 = (-1) then (35, [some (vR 111), some (vI p1)], [], σ) else (57, [some (vR 111), some (vI p1)], [], σ))) rfl ?_
    refine run_ite hf (fun _ hf => ?_) (fun _ hf => ?_)
    · refine run_seg (k := 9) (s' := (50, [some (vR 111), some (vI p1)], [vL (σ 111 12), vI (σ 114 1), vI 3, vR 118], σ)) rfl ?_
      refine run_callN (w := fun a => some (vI a)) (m := 237) (as := [vR 118, vI 3, vI (σ 114 1), vL (σ 111 12)]) (pc := 53) (ls := [some (vR 111), some (vI p1)]) (st' := []) (σ := σ) hf rfl (fun _ h => (c_M_findIn_118 h).mono (by decide)) (fun r5 hf => ?_)
      refine run_seg (k := 2) (s' := (if r5 = (-1) then (63, [some (vR 111), some (vI p1)], [], σ) else (57, [some (vR 111), some (vI p1)], [], σ))) rfl ?_
      refine run_ite hf (fun _ hf => ?_) (fun _ hf => ?_)
      · refine run_seg (k := 5) (s' := (72, [some (vR 111), some (vI p1)], [vL (σ 111 12), vI p1, vR 118], σ)) rfl ?_
        refine run_guard (s' := (73, [some (vR 111), some (vI p1)], [], upS σ 118 p1.toNat (σ 111 12))) hf rfl (fun hf => ?_)
        refine run_let (fun σ6 => (73, [some (vR 111), some (vI p1)], [], σ6)) hf (fun σ6 hf => ?_)
        refine run_seg (k := 1) (s' := (74, [some (vR 111), some (vI p1)], [vR 111], σ6)) rfl ?_
        refine run_callV (m := 223) (as := [vR 111]) (pc := 77) (ls := [some (vR 111), some (vI p1)]) (st' := []) (σ := σ6) hf rfl (fun _ h => (c_M_go h).mono (by decide)) (fun σ7 hf => ?_)
        refine run_seg (k := 1) (s' := (78, [some (vR 111), some (vI p1)], [vI 1], σ7)) rfl ?_
        exact run_ret hf rfl
      · exact r_M_readNew_57 hf
    · exact r_M_readNew_57 hf
def f_M_readOf_27 (l2 : Int) (l3 : Int) (s0 : Int) (σ : xSt) : Option (Int × xSt) :=
  xbW (f_M_readNumber s0 l2 σ) fun r4 σ5 =>
  if r4 = 0 then (some (0, σ5))
  else (xlet (upS σ5 111 24 l3) fun σ6 =>
  some (1, σ6))
/-- BentPennyModel.readOf(II)Z -/
def f_M_readOf (p1 : Int) (p2 : Int) (σ : xSt) : Option (Int × xSt) :=
  xbW (f_M_readNumber 0 p2 σ) fun r1 σ2 =>
  if r1 = 0 then (some (0, σ2))
  else (xlet (σ2 111 13) fun x3 =>
  if p1 < x3 then (f_M_readOf_27 p2 x3 x3 σ2)
  else (f_M_readOf_27 p2 x3 p1 σ2))
theorem r_M_readOf_27 {l2 : Int} {l3 : Int} {s0 : Int} {g1 : Option xV} {σ : xSt} {r : Int × xSt} (hf : f_M_readOf_27 l2 l3 s0 σ = some r) : Run 3 12 2 kX12_readOf (27, [some (vR 111), g1, some (vI l2), some (vI l3)], [vI s0, vR 111], σ) (tIW r) := by
  unfold f_M_readOf_27 at hf
  refine run_seg (k := 1) (s' := (28, [some (vR 111), g1, some (vI l2), some (vI l3)], [vI l2, vI s0, vR 111], σ)) rfl ?_
  refine run_callW (w := fun a => some (vI a)) (m := 230) (as := [vR 111, vI s0, vI l2]) (pc := 31) (ls := [some (vR 111), g1, some (vI l2), some (vI l3)]) (st' := []) (σ := σ) hf rfl (fun _ _ h => (c_M_readNumber h).mono (by decide)) (fun r4 σ5 hf => ?_)
  refine run_seg (k := 1) (s' := (if r4 = 0 then (34, [some (vR 111), g1, some (vI l2), some (vI l3)], [], σ5) else (36, [some (vR 111), g1, some (vI l2), some (vI l3)], [], σ5))) rfl ?_
  refine run_ite hf (fun _ hf => ?_) (fun _ hf => ?_)
  · refine run_seg (k := 1) (s' := (35, [some (vR 111), g1, some (vI l2), some (vI l3)], [vI 0], σ5)) rfl ?_
    exact run_ret hf rfl
  · refine run_seg (k := 3) (s' := (41, [some (vR 111), g1, some (vI l2), some (vI l3)], [], upS σ5 111 24 l3)) rfl ?_
    refine run_let (fun σ6 => (41, [some (vR 111), g1, some (vI l2), some (vI l3)], [], σ6)) hf (fun σ6 hf => ?_)
    refine run_seg (k := 1) (s' := (42, [some (vR 111), g1, some (vI l2), some (vI l3)], [vI 1], σ6)) rfl ?_
    exact run_ret hf rfl
theorem c_M_readOf {p1 : Int} {p2 : Int} {σ : xSt} {r : Int × xSt} (hf : f_M_readOf p1 p2 σ = some r) : Call (3 + 1) 239 [vR 111, vI p1, vI p2] σ (tIW r).1 (tIW r).2 := by
  unfold f_M_readOf at hf
  refine call_of (own := 12) (rk := 2) (cd := kX12_readOf) (ls := [some (vR 111), some (vI p1), some (vI p2), none]) (rT := tIW) rfl rfl rfl rfl rfl ?_
  refine run_seg (k := 3) (s' := (3, [some (vR 111), some (vI p1), some (vI p2), none], [vI p2, vI 0, vR 111], σ)) rfl ?_
  refine run_callW (w := fun a => some (vI a)) (m := 230) (as := [vR 111, vI 0, vI p2]) (pc := 6) (ls := [some (vR 111), some (vI p1), some (vI p2), none]) (st' := []) (σ := σ) hf rfl (fun _ _ h => (c_M_readNumber h).mono (by decide)) (fun r1 σ2 hf => ?_)
  refine run_seg (k := 1) (s' := (if r1 = 0 then (9, [some (vR 111), some (vI p1), some (vI p2), none], [], σ2) else (11, [some (vR 111), some (vI p1), some (vI p2), none], [], σ2))) rfl ?_
  refine run_ite hf (fun _ hf => ?_) (fun _ hf => ?_)
  · refine run_seg (k := 1) (s' := (10, [some (vR 111), some (vI p1), some (vI p2), none], [vI 0], σ2)) rfl ?_
    exact run_ret hf rfl
  · refine run_seg (k := 3) (s' := (16, [some (vR 111), some (vI p1), some (vI p2), some (vI (σ2 111 13))], [], σ2)) rfl ?_
    refine run_let (fun x3 => (16, [some (vR 111), some (vI p1), some (vI p2), some (vI x3)], [], σ2)) hf (fun x3 hf => ?_)
    refine run_seg (k := 4) (s' := (if p1 < x3 then (22, [some (vR 111), some (vI p1), some (vI p2), some (vI x3)], [vR 111], σ2) else (26, [some (vR 111), some (vI p1), some (vI p2), some (vI x3)], [vR 111], σ2))) rfl ?_
    refine run_ite hf (fun _ hf => ?_) (fun _ hf => ?_)
    · refine run_seg (k := 2) (s' := (27, [some (vR 111), some (vI p1), some (vI p2), some (vI x3)], [vI x3, vR 111], σ2)) rfl ?_
      exact r_M_readOf_27 hf
    · refine run_seg (k := 1) (s' := (27, [some (vR 111), some (vI p1), some (vI p2), some (vI x3)], [vI p1, vR 111], σ2)) rfl ?_
      exact r_M_readOf_27 hf
def f_M_readCoin_41 : Nat → Int → Int → Int → xSt → Option (Int × xSt)
  | 0, _, _, _, _ => none
  | n + 1, l1, l2, l3, σ =>
    if l3 < 8 then (if 0 ≤ w32 (l2 + l3) ∧ w32 (l2 + l3) < 41 then (
    xlet (upS σ 114 (w32 (l2 + l3)).toNat 0) fun σ8 =>
    xlet (w32 (l3 + 1)) fun x9 =>
    f_M_readCoin_41 n l1 l2 x9 σ8) else none)
    else (if 0 ≤ l2 ∧ l2 < 41 then (
    xlet (upS σ 114 l2.toNat 2) fun σ10 =>
    xlet (upS σ10 114 40 (xor32 (σ10 114 40) (xshl 1 l1))) fun σ11 =>
    xlet (upS σ11 114 0 (w32 ((σ11 114 0) + 1))) fun σ12 =>
    xbR (f_M_isWord 1 σ12) fun r13 =>
    if r13 = 0 then (xbW (f_M_readOf 2 9 σ12) fun r14 σ15 =>
    if r14 = 0 then (some (0, σ15))
    else (if 0 ≤ w32 (l2 + 1) ∧ w32 (l2 + 1) < 41 then (
    xlet (upS σ15 114 (w32 (l2 + 1)).toNat (σ15 111 13)) fun σ16 =>
    if 0 ≤ w32 (l2 + 2) ∧ w32 (l2 + 2) < 41 then (
    xlet (upS σ16 114 (w32 (l2 + 2)).toNat (σ16 111 24)) fun σ17 =>
    if 0 ≤ w32 (l2 + 3) ∧ w32 (l2 + 3) < 41 then (
    xlet (upS σ17 114 (w32 (l2 + 3)).toNat (w32 ((σ17 111 13) - (σ17 111 24)))) fun σ18 =>
    some (1, σ18)) else none) else none) else none))
    else (if σ12 114 2 = (-1) then (xlet (upS σ12 114 2 l1) fun σ19 =>
    xbR (f_M_go σ19) fun σ20 =>
    some (1, σ20))
    else (xbW (f_M_bad 3 σ12) fun r21 σ22 =>
    some (xnb r21, σ22)))) else none)
/-- BentPennyModel.readCoin()Z -/
def f_M_readCoin (σ : xSt) : Option (Int × xSt) :=
  xlet (σ 114 0) fun x1 =>
  if x1 = 3 then (xbW (f_M_bad 4 σ) fun r2 σ3 =>
  some (xnb r2, σ3))
  else (xbR (f_M_go σ) fun σ4 =>
  xbW (f_M_readNew x1 σ4) fun r5 σ6 =>
  if r5 = 0 then (some (0, σ6))
  else (xlet (w32 (4 + (w32 (8 * x1)))) fun x7 =>
  f_M_readCoin_41 1000000 x1 x7 0 σ6))
theorem r_M_readCoin_41 : ∀ (n : Nat) {l1 : Int} {l2 : Int} {l3 : Int} {σ : xSt} {r : Int × xSt}, f_M_readCoin_41 n l1 l2 l3 σ = some r → Run 4 12 2 kX12_readCoin (41, [some (vR 111), some (vI l1), some (vI l2), some (vI l3)], [], σ) (tIW r) := by
  intro n
  induction n with
  | zero =>
    intro _ _ _ _ _ h
    exact nomatch (show (none : Option (Int × xSt)) = some _ from h)
  | succ n ih =>
    intro l1 l2 l3 σ r hf
    unfold f_M_readCoin_41 at hf
    refine run_seg (k := 3) (s' := (if l3 < 8 then (47, [some (vR 111), some (vI l1), some (vI l2), some (vI l3)], [], σ) else (62, [some (vR 111), some (vI l1), some (vI l2), some (vI l3)], [], σ))) rfl ?_
    refine run_ite hf (fun _ hf => ?_) (fun _ hf => ?_)
    · refine run_seg (k := 6) (s' := (55, [some (vR 111), some (vI l1), some (vI l2), some (vI l3)], [vI 0, vI (w32 (l2 + l3)), vR 114], σ)) rfl ?_
      refine run_guard (s' := (56, [some (vR 111), some (vI l1), some (vI l2), some (vI l3)], [], upS σ 114 (w32 (l2 + l3)).toNat 0)) hf rfl (fun hf => ?_)
      refine run_let (fun σ8 => (56, [some (vR 111), some (vI l1), some (vI l2), some (vI l3)], [], σ8)) hf (fun σ8 hf => ?_)
      refine run_seg (k := 1) (s' := (59, [some (vR 111), some (vI l1), some (vI l2), some (vI (w32 (l3 + 1)))], [], σ8)) rfl ?_
      refine run_let (fun x9 => (59, [some (vR 111), some (vI l1), some (vI l2), some (vI x9)], [], σ8)) hf (fun x9 hf => ?_)
      refine run_seg (k := 1) (s' := (41, [some (vR 111), some (vI l1), some (vI l2), some (vI x9)], [], σ8)) rfl ?_
      exact ih hf
    · refine run_seg (k := 4) (s' := (68, [some (vR 111), some (vI l1), some (vI l2), some (vI l3)], [vI 2, vI l2, vR 114], σ)) rfl ?_
      refine run_guard (s' := (69, [some (vR 111), some (vI l1), some (vI l2), some (vI l3)], [], upS σ 114 l2.toNat 2)) hf rfl (fun hf => ?_)
      refine run_let (fun σ10 => (69, [some (vR 111), some (vI l1), some (vI l2), some (vI l3)], [], σ10)) hf (fun σ10 hf => ?_)
      refine run_seg (k := 10) (s' := (82, [some (vR 111), some (vI l1), some (vI l2), some (vI l3)], [], upS σ10 114 40 (xor32 (σ10 114 40) (xshl 1 l1)))) rfl ?_
      refine run_let (fun σ11 => (82, [some (vR 111), some (vI l1), some (vI l2), some (vI l3)], [], σ11)) hf (fun σ11 hf => ?_)
      refine run_seg (k := 8) (s' := (92, [some (vR 111), some (vI l1), some (vI l2), some (vI l3)], [], upS σ11 114 0 (w32 ((σ11 114 0) + 1)))) rfl ?_
      refine run_let (fun σ12 => (92, [some (vR 111), some (vI l1), some (vI l2), some (vI l3)], [], σ12)) hf (fun σ12 hf => ?_)
      refine run_seg (k := 2) (s' := (94, [some (vR 111), some (vI l1), some (vI l2), some (vI l3)], [vI 1, vR 111], σ12)) rfl ?_
      refine run_callN (w := fun a => some (vI a)) (m := 226) (as := [vR 111, vI 1]) (pc := 97) (ls := [some (vR 111), some (vI l1), some (vI l2), some (vI l3)]) (st' := []) (σ := σ12) hf rfl (fun _ h => (c_M_isWord h).mono (by decide)) (fun r13 hf => ?_)
      refine run_seg (k := 1) (s' := (if r13 = 0 then (129, [some (vR 111), some (vI l1), some (vI l2), some (vI l3)], [], σ12) else (100, [some (vR 111), some (vI l1), some (vI l2), some (vI l3)], [], σ12))) rfl ?_
      refine run_ite hf (fun _ hf => ?_) (fun _ hf => ?_)
      · refine run_seg (k := 3) (s' := (133, [some (vR 111), some (vI l1), some (vI l2), some (vI l3)], [vI 9, vI 2, vR 111], σ12)) rfl ?_
        refine run_callW (w := fun a => some (vI a)) (m := 239) (as := [vR 111, vI 2, vI 9]) (pc := 136) (ls := [some (vR 111), some (vI l1), some (vI l2), some (vI l3)]) (st' := []) (σ := σ12) hf rfl (fun _ _ h => (c_M_readOf h).mono (by decide)) (fun r14 σ15 hf => ?_)
        refine run_seg (k := 1) (s' := (if r14 = 0 then (139, [some (vR 111), some (vI l1), some (vI l2), some (vI l3)], [], σ15) else (141, [some (vR 111), some (vI l1), some (vI l2), some (vI l3)], [], σ15))) rfl ?_
        refine run_ite hf (fun _ hf => ?_) (fun _ hf => ?_)
        · refine run_seg (k := 1) (s' := (140, [some (vR 111), some (vI l1), some (vI l2), some (vI l3)], [vI 0], σ15)) rfl ?_
          exact run_ret hf rfl
        · refine run_seg (k := 7) (s' := (152, [some (vR 111), some (vI l1), some (vI l2), some (vI l3)], [vI (σ15 111 13), vI (w32 (l2 + 1)), vR 114], σ15)) rfl ?_
          refine run_guard (s' := (153, [some (vR 111), some (vI l1), some (vI l2), some (vI l3)], [], upS σ15 114 (w32 (l2 + 1)).toNat (σ15 111 13))) hf rfl (fun hf => ?_)
          refine run_let (fun σ16 => (153, [some (vR 111), some (vI l1), some (vI l2), some (vI l3)], [], σ16)) hf (fun σ16 hf => ?_)
          refine run_seg (k := 7) (s' := (164, [some (vR 111), some (vI l1), some (vI l2), some (vI l3)], [vI (σ16 111 24), vI (w32 (l2 + 2)), vR 114], σ16)) rfl ?_
          refine run_guard (s' := (165, [some (vR 111), some (vI l1), some (vI l2), some (vI l3)], [], upS σ16 114 (w32 (l2 + 2)).toNat (σ16 111 24))) hf rfl (fun hf => ?_)
          refine run_let (fun σ17 => (165, [some (vR 111), some (vI l1), some (vI l2), some (vI l3)], [], σ17)) hf (fun σ17 hf => ?_)
          refine run_seg (k := 10) (s' := (181, [some (vR 111), some (vI l1), some (vI l2), some (vI l3)], [vI (w32 ((σ17 111 13) - (σ17 111 24))), vI (w32 (l2 + 3)), vR 114], σ17)) rfl ?_
          refine run_guard (s' := (182, [some (vR 111), some (vI l1), some (vI l2), some (vI l3)], [], upS σ17 114 (w32 (l2 + 3)).toNat (w32 ((σ17 111 13) - (σ17 111 24))))) hf rfl (fun hf => ?_)
          refine run_let (fun σ18 => (182, [some (vR 111), some (vI l1), some (vI l2), some (vI l3)], [], σ18)) hf (fun σ18 hf => ?_)
          refine run_seg (k := 1) (s' := (183, [some (vR 111), some (vI l1), some (vI l2), some (vI l3)], [vI 1], σ18)) rfl ?_
          exact run_ret hf rfl
      · refine run_seg (k := 6) (s' := (if σ12 114 2 = (-1) then (116, [some (vR 111), some (vI l1), some (vI l2), some (vI l3)], [], σ12) else (110, [some (vR 111), some (vI l1), some (vI l2), some (vI l3)], [], σ12))) rfl ?_
        refine run_ite hf (fun _ hf => ?_) (fun _ hf => ?_)
        · refine run_seg (k := 5) (s' := (123, [some (vR 111), some (vI l1), some (vI l2), some (vI l3)], [], upS σ12 114 2 l1)) rfl ?_
          refine run_let (fun σ19 => (123, [some (vR 111), some (vI l1), some (vI l2), some (vI l3)], [], σ19)) hf (fun σ19 hf => ?_)
          refine run_seg (k := 1) (s' := (124, [some (vR 111), some (vI l1), some (vI l2), some (vI l3)], [vR 111], σ19)) rfl ?_
          refine run_callV (m := 223) (as := [vR 111]) (pc := 127) (ls := [some (vR 111), some (vI l1), some (vI l2), some (vI l3)]) (st' := []) (σ := σ19) hf rfl (fun _ h => (c_M_go h).mono (by decide)) (fun σ20 hf => ?_)
          refine run_seg (k := 1) (s' := (128, [some (vR 111), some (vI l1), some (vI l2), some (vI l3)], [vI 1], σ20)) rfl ?_
          exact run_ret hf rfl
        · refine run_seg (k := 2) (s' := (112, [some (vR 111), some (vI l1), some (vI l2), some (vI l3)], [vI 3, vR 111], σ12)) rfl ?_
          refine run_callW (w := fun a => some (vI a)) (m := 229) (as := [vR 111, vI 3]) (pc := 115) (ls := [some (vR 111), some (vI l1), some (vI l2), some (vI l3)]) (st' := []) (σ := σ12) hf rfl (fun _ _ h => (c_M_bad h).mono (by decide)) (fun r21 σ22 hf => ?_)
          exact run_ret hf rfl
theorem c_M_readCoin {σ : xSt} {r : Int × xSt} (hf : f_M_readCoin σ = some r) : Call (4 + 1) 240 [vR 111] σ (tIW r).1 (tIW r).2 := by
  unfold f_M_readCoin at hf
  refine call_of (own := 12) (rk := 2) (cd := kX12_readCoin) (ls := [some (vR 111), none, none, none]) (rT := tIW) rfl rfl rfl rfl rfl ?_
  refine run_seg (k := 5) (s' := (7, [some (vR 111), some (vI (σ 114 0)), none, none], [], σ)) rfl ?_
  refine run_let (fun x1 => (7, [some (vR 111), some (vI x1), none, none], [], σ)) hf (fun x1 hf => ?_)
  refine run_seg (k := 3) (s' := (if x1 = 3 then (12, [some (vR 111), some (vI x1), none, none], [], σ) else (18, [some (vR 111), some (vI x1), none, none], [], σ))) rfl ?_
  refine run_ite hf (fun _ hf => ?_) (fun _ hf => ?_)
  · refine run_seg (k := 2) (s' := (14, [some (vR 111), some (vI x1), none, none], [vI 4, vR 111], σ)) rfl ?_
    refine run_callW (w := fun a => some (vI a)) (m := 229) (as := [vR 111, vI 4]) (pc := 17) (ls := [some (vR 111), some (vI x1), none, none]) (st' := []) (σ := σ) hf rfl (fun _ _ h => (c_M_bad h).mono (by decide)) (fun r2 σ3 hf => ?_)
    exact run_ret hf rfl
  · refine run_seg (k := 1) (s' := (19, [some (vR 111), some (vI x1), none, none], [vR 111], σ)) rfl ?_
    refine run_callV (m := 223) (as := [vR 111]) (pc := 22) (ls := [some (vR 111), some (vI x1), none, none]) (st' := []) (σ := σ) hf rfl (fun _ h => (c_M_go h).mono (by decide)) (fun σ4 hf => ?_)
    refine run_seg (k := 2) (s' := (24, [some (vR 111), some (vI x1), none, none], [vI x1, vR 111], σ4)) rfl ?_
    refine run_callW (w := fun a => some (vI a)) (m := 238) (as := [vR 111, vI x1]) (pc := 27) (ls := [some (vR 111), some (vI x1), none, none]) (st' := []) (σ := σ4) hf rfl (fun _ _ h => (c_M_readNew h).mono (by decide)) (fun r5 σ6 hf => ?_)
    refine run_seg (k := 1) (s' := (if r5 = 0 then (30, [some (vR 111), some (vI x1), none, none], [], σ6) else (32, [some (vR 111), some (vI x1), none, none], [], σ6))) rfl ?_
    refine run_ite hf (fun _ hf => ?_) (fun _ hf => ?_)
    · refine run_seg (k := 1) (s' := (31, [some (vR 111), some (vI x1), none, none], [vI 0], σ6)) rfl ?_
      exact run_ret hf rfl
    · refine run_seg (k := 6) (s' := (39, [some (vR 111), some (vI x1), some (vI (w32 (4 + (w32 (8 * x1))))), none], [], σ6)) rfl ?_
      refine run_let (fun x7 => (39, [some (vR 111), some (vI x1), some (vI x7), none], [], σ6)) hf (fun x7 hf => ?_)
      refine run_seg (k := 2) (s' := (41, [some (vR 111), some (vI x1), some (vI x7), some (vI 0)], [], σ6)) rfl ?_
      exact r_M_readCoin_41 1000000 hf
def f_M_readWheel_125 (σ : xSt) : Option (Int × xSt) :=
  xbW (f_M_bad 2 σ) fun r20 σ21 =>
  some (xnb r20, σ21)
def f_M_readWheel_80 (k62 : (Int → xSt → Option (Int × xSt))) (l2 : Int) (σ : xSt) : Option (Int × xSt) :=
  if σ 111 7 = 3 then (xbR (f_M_isIn (σ 111 8) 1 9 σ) fun r11 =>
  if r11 = 0 then (f_M_readWheel_125 σ)
  else (if 0 ≤ w32 (l2 + 1) ∧ w32 (l2 + 1) < 41 then (
  if 9 < w32 ((σ 114 (w32 (l2 + 1)).toNat) + (σ 111 8)) then (f_M_readWheel_125 σ)
  else (if 0 ≤ l2 ∧ l2 < 41 then (
  if σ 114 l2.toNat = 6 then (xbW (f_M_bad 4 σ) fun r12 σ13 =>
  some (xnb r12, σ13))
  else (if 0 ≤ l2 ∧ l2 < 41 then (
  if 0 ≤ w32 ((w32 (l2 + 2)) + (σ 114 l2.toNat)) ∧ w32 ((w32 (l2 + 2)) + (σ 114 l2.toNat)) < 41 then (
  xlet (upS σ 114 (w32 ((w32 (l2 + 2)) + (σ 114 l2.toNat))).toNat (σ 111 8)) fun σ14 =>
  if 0 ≤ w32 (l2 + 1) ∧ w32 (l2 + 1) < 41 then (
  if 0 ≤ w32 (l2 + 1) ∧ w32 (l2 + 1) < 41 then (
  xlet (upS σ14 114 (w32 (l2 + 1)).toNat (w32 ((σ14 114 (w32 (l2 + 1)).toNat) + (σ14 111 8)))) fun σ15 =>
  if 0 ≤ l2 ∧ l2 < 41 then (
  if 0 ≤ l2 ∧ l2 < 41 then (
  xlet (upS σ15 114 l2.toNat (w32 ((σ15 114 l2.toNat) + 1))) fun σ16 =>
  xbR (f_M_go σ16) fun σ17 =>
  k62 l2 σ17) else none) else none) else none) else none) else none) else none)) else none)) else none))
  else (xbW (f_M_bad 1 σ) fun r18 σ19 =>
  some (xnb r18, σ19))
def f_M_readWheel_62 : Nat → Int → xSt → Option (Int × xSt)
  | 0, _, _ => none
  | n + 1, l2, σ =>
    if 0 ≤ l2 ∧ l2 < 41 then (
    if σ 114 l2.toNat < 2 then (f_M_readWheel_80 (fun z0 sz => f_M_readWheel_62 n z0 sz) l2 σ)
    else (if σ 111 7 = 3 then (f_M_readWheel_80 (fun z0 sz => f_M_readWheel_62 n z0 sz) l2 σ)
    else (xlet (upS σ 114 0 (w32 ((σ 114 0) + 1))) fun σ10 =>
    some (1, σ10)))) else none
def f_M_readWheel_41 : Nat → Int → Int → xSt → Option (Int × xSt)
  | 0, _, _, _ => none
  | n + 1, l2, l3, σ =>
    if l3 < 8 then (if 0 ≤ w32 (l2 + l3) ∧ w32 (l2 + l3) < 41 then (
    xlet (upS σ 114 (w32 (l2 + l3)).toNat 0) fun σ8 =>
    xlet (w32 (l3 + 1)) fun x9 =>
    f_M_readWheel_41 n l2 x9 σ8) else none)
    else (f_M_readWheel_62 1000000 l2 σ)
/-- BentPennyModel.readWheel()Z -/
def f_M_readWheel (σ : xSt) : Option (Int × xSt) :=
  xlet (σ 114 0) fun x1 =>
  if x1 = 3 then (xbW (f_M_bad 4 σ) fun r2 σ3 =>
  some (xnb r2, σ3))
  else (xbR (f_M_go σ) fun σ4 =>
  xbW (f_M_readNew x1 σ4) fun r5 σ6 =>
  if r5 = 0 then (some (0, σ6))
  else (xlet (w32 (4 + (w32 (8 * x1)))) fun x7 =>
  f_M_readWheel_41 1000000 x7 0 σ6))
theorem r_M_readWheel_125 {g1 : Option xV} {g2 : Option xV} {g3 : Option xV} {σ : xSt} {r : Int × xSt} (hf : f_M_readWheel_125 σ = some r) : Run 4 12 2 kX12_readWheel (125, [some (vR 111), g1, g2, g3], [], σ) (tIW r) := by
  unfold f_M_readWheel_125 at hf
  refine run_seg (k := 2) (s' := (127, [some (vR 111), g1, g2, g3], [vI 2, vR 111], σ)) rfl ?_
  refine run_callW (w := fun a => some (vI a)) (m := 229) (as := [vR 111, vI 2]) (pc := 130) (ls := [some (vR 111), g1, g2, g3]) (st' := []) (σ := σ) hf rfl (fun _ _ h => (c_M_bad h).mono (by decide)) (fun r20 σ21 hf => ?_)
  exact run_ret hf rfl
theorem r_M_readWheel_80 {k62 : (Int → xSt → Option (Int × xSt))} (hk62 : ∀ {l2 : Int} {g1 : Option xV} {g3 : Option xV} {σ : xSt} {r : Int × xSt}, k62 l2 σ = some r → Run 4 12 2 kX12_readWheel (62, [some (vR 111), g1, some (vI l2), g3], [], σ) (tIW r)) {l2 : Int} {g1 : Option xV} {g3 : Option xV} {σ : xSt} {r : Int × xSt} (hf : f_M_readWheel_80 k62 l2 σ = some r) : Run 4 12 2 kX12_readWheel (80, [some (vR 111), g1, some (vI l2), g3], [], σ) (tIW r) := by
  unfold f_M_readWheel_80 at hf
  refine run_seg (k := 4) (s' := (if σ 111 7 = 3 then (94, [some (vR 111), g1, some (vI l2), g3], [], σ) else (88, [some (vR 111), g1, some (vI l2), g3], [], σ))) rfl ?_
  refine run_ite hf (fun _ hf => ?_) (fun _ hf => ?_)
  · refine run_seg (k := 4) (s' := (101, [some (vR 111), g1, some (vI l2), g3], [vI 9, vI 1, vI (σ 111 8)], σ)) rfl ?_
    refine run_callN (w := fun a => some (vI a)) (m := 216) (as := [vI (σ 111 8), vI 1, vI 9]) (pc := 104) (ls := [some (vR 111), g1, some (vI l2), g3]) (st' := []) (σ := σ) hf rfl (fun _ h => (c_M_isIn h).mono (by decide)) (fun r11 hf => ?_)
    refine run_seg (k := 1) (s' := (if r11 = 0 then (125, [some (vR 111), g1, some (vI l2), g3], [], σ) else (107, [some (vR 111), g1, some (vI l2), g3], [], σ))) rfl ?_
    refine run_ite hf (fun _ hf => ?_) (fun _ hf => ?_)
    · exact r_M_readWheel_125 hf
    · refine run_seg (k := 5) (s' := (114, [some (vR 111), g1, some (vI l2), g3], [vI (w32 (l2 + 1)), vR 114], σ)) rfl ?_
      refine run_guard (s' := (115, [some (vR 111), g1, some (vI l2), g3], [vI (σ 114 (w32 (l2 + 1)).toNat)], σ)) hf rfl (fun hf => ?_)
      refine run_seg (k := 5) (s' := (if 9 < w32 ((σ 114 (w32 (l2 + 1)).toNat) + (σ 111 8)) then (125, [some (vR 111), g1, some (vI l2), g3], [], σ) else (131, [some (vR 111), g1, some (vI l2), g3], [], σ))) rfl ?_
      refine run_ite hf (fun _ hf => ?_) (fun _ hf => ?_)
      · exact r_M_readWheel_125 hf
      · refine run_seg (k := 3) (s' := (136, [some (vR 111), g1, some (vI l2), g3], [vI l2, vR 114], σ)) rfl ?_
        refine run_guard (s' := (137, [some (vR 111), g1, some (vI l2), g3], [vI (σ 114 l2.toNat)], σ)) hf rfl (fun hf => ?_)
        refine run_seg (k := 2) (s' := (if σ 114 l2.toNat = 6 then (142, [some (vR 111), g1, some (vI l2), g3], [], σ) else (148, [some (vR 111), g1, some (vI l2), g3], [], σ))) rfl ?_
        refine run_ite hf (fun _ hf => ?_) (fun _ hf => ?_)
        · refine run_seg (k := 2) (s' := (144, [some (vR 111), g1, some (vI l2), g3], [vI 4, vR 111], σ)) rfl ?_
          refine run_callW (w := fun a => some (vI a)) (m := 229) (as := [vR 111, vI 4]) (pc := 147) (ls := [some (vR 111), g1, some (vI l2), g3]) (st' := []) (σ := σ) hf rfl (fun _ _ h => (c_M_bad h).mono (by decide)) (fun r12 σ13 hf => ?_)
          exact run_ret hf rfl
        · refine run_seg (k := 8) (s' := (160, [some (vR 111), g1, some (vI l2), g3], [vI l2, vR 114, vI (w32 (l2 + 2)), vR 114], σ)) rfl ?_
          refine run_guard (s' := (161, [some (vR 111), g1, some (vI l2), g3], [vI (σ 114 l2.toNat), vI (w32 (l2 + 2)), vR 114], σ)) hf rfl (fun hf => ?_)
          refine run_seg (k := 3) (s' := (166, [some (vR 111), g1, some (vI l2), g3], [vI (σ 111 8), vI (w32 ((w32 (l2 + 2)) + (σ 114 l2.toNat))), vR 114], σ)) rfl ?_
          refine run_guard (s' := (167, [some (vR 111), g1, some (vI l2), g3], [], upS σ 114 (w32 ((w32 (l2 + 2)) + (σ 114 l2.toNat))).toNat (σ 111 8))) hf rfl (fun hf => ?_)
          refine run_let (fun σ14 => (167, [some (vR 111), g1, some (vI l2), g3], [], σ14)) hf (fun σ14 hf => ?_)
          refine run_seg (k := 6) (s' := (175, [some (vR 111), g1, some (vI l2), g3], [vI (w32 (l2 + 1)), vR 114, vI (w32 (l2 + 1)), vR 114], σ14)) rfl ?_
          refine run_guard (s' := (176, [some (vR 111), g1, some (vI l2), g3], [vI (σ14 114 (w32 (l2 + 1)).toNat), vI (w32 (l2 + 1)), vR 114], σ14)) hf rfl (fun hf => ?_)
          refine run_seg (k := 3) (s' := (181, [some (vR 111), g1, some (vI l2), g3], [vI (w32 ((σ14 114 (w32 (l2 + 1)).toNat) + (σ14 111 8))), vI (w32 (l2 + 1)), vR 114], σ14)) rfl ?_
          refine run_guard (s' := (182, [some (vR 111), g1, some (vI l2), g3], [], upS σ14 114 (w32 (l2 + 1)).toNat (w32 ((σ14 114 (w32 (l2 + 1)).toNat) + (σ14 111 8))))) hf rfl (fun hf => ?_)
          refine run_let (fun σ15 => (182, [some (vR 111), g1, some (vI l2), g3], [], σ15)) hf (fun σ15 hf => ?_)
          refine run_seg (k := 4) (s' := (188, [some (vR 111), g1, some (vI l2), g3], [vI l2, vR 114, vI l2, vR 114], σ15)) rfl ?_
          refine run_guard (s' := (189, [some (vR 111), g1, some (vI l2), g3], [vI (σ15 114 l2.toNat), vI l2, vR 114], σ15)) hf rfl (fun hf => ?_)
          refine run_seg (k := 2) (s' := (191, [some (vR 111), g1, some (vI l2), g3], [vI (w32 ((σ15 114 l2.toNat) + 1)), vI l2, vR 114], σ15)) rfl ?_
          refine run_guard (s' := (192, [some (vR 111), g1, some (vI l2), g3], [], upS σ15 114 l2.toNat (w32 ((σ15 114 l2.toNat) + 1)))) hf rfl (fun hf => ?_)
          refine run_let (fun σ16 => (192, [some (vR 111), g1, some (vI l2), g3], [], σ16)) hf (fun σ16 hf => ?_)
          refine run_seg (k := 1) (s' := (193, [some (vR 111), g1, some (vI l2), g3], [vR 111], σ16)) rfl ?_
          refine run_callV (m := 223) (as := [vR 111]) (pc := 196) (ls := [some (vR 111), g1, some (vI l2), g3]) (st' := []) (σ := σ16) hf rfl (fun _ h => (c_M_go h).mono (by decide)) (fun σ17 hf => ?_)
          refine run_seg (k := 1) (s' := (62, [some (vR 111), g1, some (vI l2), g3], [], σ17)) rfl ?_
          exact hk62 hf
  · refine run_seg (k := 2) (s' := (90, [some (vR 111), g1, some (vI l2), g3], [vI 1, vR 111], σ)) rfl ?_
    refine run_callW (w := fun a => some (vI a)) (m := 229) (as := [vR 111, vI 1]) (pc := 93) (ls := [some (vR 111), g1, some (vI l2), g3]) (st' := []) (σ := σ) hf rfl (fun _ _ h => (c_M_bad h).mono (by decide)) (fun r18 σ19 hf => ?_)
    exact run_ret hf rfl
theorem r_M_readWheel_62 : ∀ (n : Nat) {l2 : Int} {g1 : Option xV} {g3 : Option xV} {σ : xSt} {r : Int × xSt}, f_M_readWheel_62 n l2 σ = some r → Run 4 12 2 kX12_readWheel (62, [some (vR 111), g1, some (vI l2), g3], [], σ) (tIW r) := by
  intro n
  induction n with
  | zero =>
    intro _ _ _ _ _ h
    exact nomatch (show (none : Option (Int × xSt)) = some _ from h)
  | succ n ih =>
    intro l2 g1 g3 σ r hf
    unfold f_M_readWheel_62 at hf
    refine run_seg (k := 3) (s' := (67, [some (vR 111), g1, some (vI l2), g3], [vI l2, vR 114], σ)) rfl ?_
    refine run_guard (s' := (68, [some (vR 111), g1, some (vI l2), g3], [vI (σ 114 l2.toNat)], σ)) hf rfl (fun hf => ?_)
    refine run_seg (k := 2) (s' := (if σ 114 l2.toNat < 2 then (80, [some (vR 111), g1, some (vI l2), g3], [], σ) else (72, [some (vR 111), g1, some (vI l2), g3], [], σ))) rfl ?_
    refine run_ite hf (fun _ hf => ?_) (fun _ hf => ?_)
    · exact r_M_readWheel_80 (fun h => ih h) hf
    · refine run_seg (k := 4) (s' := (if σ 111 7 = 3 then (80, [some (vR 111), g1, some (vI l2), g3], [], σ) else (199, [some (vR 111), g1, some (vI l2), g3], [], σ))) rfl ?_
      refine run_ite hf (fun _ hf => ?_) (fun _ hf => ?_)
      · exact r_M_readWheel_80 (fun h => ih h) hf
      · refine run_seg (k := 8) (s' := (209, [some (vR 111), g1, some (vI l2), g3], [], upS σ 114 0 (w32 ((σ 114 0) + 1)))) rfl ?_
        refine run_let (fun σ10 => (209, [some (vR 111), g1, some (vI l2), g3], [], σ10)) hf (fun σ10 hf => ?_)
        refine run_seg (k := 1) (s' := (210, [some (vR 111), g1, some (vI l2), g3], [vI 1], σ10)) rfl ?_
        exact run_ret hf rfl
theorem r_M_readWheel_41 : ∀ (n : Nat) {l2 : Int} {l3 : Int} {g1 : Option xV} {σ : xSt} {r : Int × xSt}, f_M_readWheel_41 n l2 l3 σ = some r → Run 4 12 2 kX12_readWheel (41, [some (vR 111), g1, some (vI l2), some (vI l3)], [], σ) (tIW r) := by
  intro n
  induction n with
  | zero =>
    intro _ _ _ _ _ h
    exact nomatch (show (none : Option (Int × xSt)) = some _ from h)
  | succ n ih =>
    intro l2 l3 g1 σ r hf
    unfold f_M_readWheel_41 at hf
    refine run_seg (k := 3) (s' := (if l3 < 8 then (47, [some (vR 111), g1, some (vI l2), some (vI l3)], [], σ) else (62, [some (vR 111), g1, some (vI l2), some (vI l3)], [], σ))) rfl ?_
    refine run_ite hf (fun _ hf => ?_) (fun _ hf => ?_)
    · refine run_seg (k := 6) (s' := (55, [some (vR 111), g1, some (vI l2), some (vI l3)], [vI 0, vI (w32 (l2 + l3)), vR 114], σ)) rfl ?_
      refine run_guard (s' := (56, [some (vR 111), g1, some (vI l2), some (vI l3)], [], upS σ 114 (w32 (l2 + l3)).toNat 0)) hf rfl (fun hf => ?_)
      refine run_let (fun σ8 => (56, [some (vR 111), g1, some (vI l2), some (vI l3)], [], σ8)) hf (fun σ8 hf => ?_)
      refine run_seg (k := 1) (s' := (59, [some (vR 111), g1, some (vI l2), some (vI (w32 (l3 + 1)))], [], σ8)) rfl ?_
      refine run_let (fun x9 => (59, [some (vR 111), g1, some (vI l2), some (vI x9)], [], σ8)) hf (fun x9 hf => ?_)
      refine run_seg (k := 1) (s' := (41, [some (vR 111), g1, some (vI l2), some (vI x9)], [], σ8)) rfl ?_
      exact ih hf
    · exact r_M_readWheel_62 1000000 hf
theorem c_M_readWheel {σ : xSt} {r : Int × xSt} (hf : f_M_readWheel σ = some r) : Call (4 + 1) 241 [vR 111] σ (tIW r).1 (tIW r).2 := by
  unfold f_M_readWheel at hf
  refine call_of (own := 12) (rk := 2) (cd := kX12_readWheel) (ls := [some (vR 111), none, none, none]) (rT := tIW) rfl rfl rfl rfl rfl ?_
  refine run_seg (k := 5) (s' := (7, [some (vR 111), some (vI (σ 114 0)), none, none], [], σ)) rfl ?_
  refine run_let (fun x1 => (7, [some (vR 111), some (vI x1), none, none], [], σ)) hf (fun x1 hf => ?_)
  refine run_seg (k := 3) (s' := (if x1 = 3 then (12, [some (vR 111), some (vI x1), none, none], [], σ) else (18, [some (vR 111), some (vI x1), none, none], [], σ))) rfl ?_
  refine run_ite hf (fun _ hf => ?_) (fun _ hf => ?_)
  · refine run_seg (k := 2) (s' := (14, [some (vR 111), some (vI x1), none, none], [vI 4, vR 111], σ)) rfl ?_
    refine run_callW (w := fun a => some (vI a)) (m := 229) (as := [vR 111, vI 4]) (pc := 17) (ls := [some (vR 111), some (vI x1), none, none]) (st' := []) (σ := σ) hf rfl (fun _ _ h => (c_M_bad h).mono (by decide)) (fun r2 σ3 hf => ?_)
    exact run_ret hf rfl
  · refine run_seg (k := 1) (s' := (19, [some (vR 111), some (vI x1), none, none], [vR 111], σ)) rfl ?_
    refine run_callV (m := 223) (as := [vR 111]) (pc := 22) (ls := [some (vR 111), some (vI x1), none, none]) (st' := []) (σ := σ) hf rfl (fun _ h => (c_M_go h).mono (by decide)) (fun σ4 hf => ?_)
    refine run_seg (k := 2) (s' := (24, [some (vR 111), some (vI x1), none, none], [vI x1, vR 111], σ4)) rfl ?_
    refine run_callW (w := fun a => some (vI a)) (m := 238) (as := [vR 111, vI x1]) (pc := 27) (ls := [some (vR 111), some (vI x1), none, none]) (st' := []) (σ := σ4) hf rfl (fun _ _ h => (c_M_readNew h).mono (by decide)) (fun r5 σ6 hf => ?_)
    refine run_seg (k := 1) (s' := (if r5 = 0 then (30, [some (vR 111), some (vI x1), none, none], [], σ6) else (32, [some (vR 111), some (vI x1), none, none], [], σ6))) rfl ?_
    refine run_ite hf (fun _ hf => ?_) (fun _ hf => ?_)
    · refine run_seg (k := 1) (s' := (31, [some (vR 111), some (vI x1), none, none], [vI 0], σ6)) rfl ?_
      exact run_ret hf rfl
    · refine run_seg (k := 6) (s' := (39, [some (vR 111), some (vI x1), some (vI (w32 (4 + (w32 (8 * x1))))), none], [], σ6)) rfl ?_
      refine run_let (fun x7 => (39, [some (vR 111), some (vI x1), some (vI x7), none], [], σ6)) hf (fun x7 hf => ?_)
      refine run_seg (k := 2) (s' := (41, [some (vR 111), some (vI x1), some (vI x7), some (vI 0)], [], σ6)) rfl ?_
      exact r_M_readWheel_41 1000000 hf
/-- BentPennyModel.readEnd()Z -/
def f_M_readEnd (σ : xSt) : Option (Int × xSt) :=
  xlet (σ 114 1) fun x1 =>
  if x1 = 6 then (xbW (f_M_bad 4 σ) fun r2 σ3 =>
  some (xnb r2, σ3))
  else (xbR (f_M_go σ) fun σ4 =>
  xbW (f_M_readNew (w32 (3 + x1)) σ4) fun r5 σ6 =>
  if r5 = 0 then (some (0, σ6))
  else (if 0 ≤ w32 (28 + (w32 (2 * x1))) ∧ w32 (28 + (w32 (2 * x1))) < 41 then (
  xlet (upS σ6 114 (w32 (28 + (w32 (2 * x1)))).toNat 0) fun σ7 =>
  if 0 ≤ w32 ((w32 (28 + (w32 (2 * x1)))) + 1) ∧ w32 ((w32 (28 + (w32 (2 * x1)))) + 1) < 41 then (
  xlet (upS σ7 114 (w32 ((w32 (28 + (w32 (2 * x1)))) + 1)).toNat 0) fun σ8 =>
  xlet (upS σ8 114 1 (w32 ((σ8 114 1) + 1))) fun σ9 =>
  if σ9 111 7 = 3 then (xbW (f_M_readOf 1 20 σ9) fun r10 σ11 =>
  if r10 = 0 then (some (0, σ11))
  else (if 0 ≤ w32 (28 + (w32 (2 * x1))) ∧ w32 (28 + (w32 (2 * x1))) < 41 then (
  xlet (upS σ11 114 (w32 (28 + (w32 (2 * x1)))).toNat (σ11 111 24)) fun σ12 =>
  if 0 ≤ w32 ((w32 (28 + (w32 (2 * x1)))) + 1) ∧ w32 ((w32 (28 + (w32 (2 * x1)))) + 1) < 41 then (
  xlet (upS σ12 114 (w32 ((w32 (28 + (w32 (2 * x1)))) + 1)).toNat (σ12 111 13)) fun σ13 =>
  some (1, σ13)) else none) else none))
  else (some (1, σ9))) else none) else none))
theorem c_M_readEnd {σ : xSt} {r : Int × xSt} (hf : f_M_readEnd σ = some r) : Call (4 + 1) 242 [vR 111] σ (tIW r).1 (tIW r).2 := by
  unfold f_M_readEnd at hf
  refine call_of (own := 12) (rk := 2) (cd := kX12_readEnd) (ls := [some (vR 111), none]) (rT := tIW) rfl rfl rfl rfl rfl ?_
  refine run_seg (k := 5) (s' := (7, [some (vR 111), some (vI (σ 114 1))], [], σ)) rfl ?_
  refine run_let (fun x1 => (7, [some (vR 111), some (vI x1)], [], σ)) hf (fun x1 hf => ?_)
  refine run_seg (k := 3) (s' := (if x1 = 6 then (13, [some (vR 111), some (vI x1)], [], σ) else (19, [some (vR 111), some (vI x1)], [], σ))) rfl ?_
  refine run_ite hf (fun _ hf => ?_) (fun _ hf => ?_)
  · refine run_seg (k := 2) (s' := (15, [some (vR 111), some (vI x1)], [vI 4, vR 111], σ)) rfl ?_
    refine run_callW (w := fun a => some (vI a)) (m := 229) (as := [vR 111, vI 4]) (pc := 18) (ls := [some (vR 111), some (vI x1)]) (st' := []) (σ := σ) hf rfl (fun _ _ h => (c_M_bad h).mono (by decide)) (fun r2 σ3 hf => ?_)
    exact run_ret hf rfl
  · refine run_seg (k := 1) (s' := (20, [some (vR 111), some (vI x1)], [vR 111], σ)) rfl ?_
    refine run_callV (m := 223) (as := [vR 111]) (pc := 23) (ls := [some (vR 111), some (vI x1)]) (st' := []) (σ := σ) hf rfl (fun _ h => (c_M_go h).mono (by decide)) (fun σ4 hf => ?_)
    refine run_seg (k := 4) (s' := (27, [some (vR 111), some (vI x1)], [vI (w32 (3 + x1)), vR 111], σ4)) rfl ?_
    refine run_callW (w := fun a => some (vI a)) (m := 238) (as := [vR 111, vI (w32 (3 + x1))]) (pc := 30) (ls := [some (vR 111), some (vI x1)]) (st' := []) (σ := σ4) hf rfl (fun _ _ h => (c_M_readNew h).mono (by decide)) (fun r5 σ6 hf => ?_)
    refine run_seg (k := 1) (s' := (if r5 = 0 then (33, [some (vR 111), some (vI x1)], [], σ6) else (35, [some (vR 111), some (vI x1)], [], σ6))) rfl ?_
    refine run_ite hf (fun _ hf => ?_) (fun _ hf => ?_)
    · refine run_seg (k := 1) (s' := (34, [some (vR 111), some (vI x1)], [vI 0], σ6)) rfl ?_
      exact run_ret hf rfl
    · refine run_seg (k := 8) (s' := (46, [some (vR 111), some (vI x1)], [vI 0, vI (w32 (28 + (w32 (2 * x1)))), vR 114], σ6)) rfl ?_
      refine run_guard (s' := (47, [some (vR 111), some (vI x1)], [], upS σ6 114 (w32 (28 + (w32 (2 * x1)))).toNat 0)) hf rfl (fun hf => ?_)
      refine run_let (fun σ7 => (47, [some (vR 111), some (vI x1)], [], σ7)) hf (fun σ7 hf => ?_)
      refine run_seg (k := 10) (s' := (60, [some (vR 111), some (vI x1)], [vI 0, vI (w32 ((w32 (28 + (w32 (2 * x1)))) + 1)), vR 114], σ7)) rfl ?_
      refine run_guard (s' := (61, [some (vR 111), some (vI x1)], [], upS σ7 114 (w32 ((w32 (28 + (w32 (2 * x1)))) + 1)).toNat 0)) hf rfl (fun hf => ?_)
      refine run_let (fun σ8 => (61, [some (vR 111), some (vI x1)], [], σ8)) hf (fun σ8 hf => ?_)
      refine run_seg (k := 8) (s' := (71, [some (vR 111), some (vI x1)], [], upS σ8 114 1 (w32 ((σ8 114 1) + 1)))) rfl ?_
      refine run_let (fun σ9 => (71, [some (vR 111), some (vI x1)], [], σ9)) hf (fun σ9 hf => ?_)
      refine run_seg (k := 4) (s' := (if σ9 111 7 = 3 then (81, [some (vR 111), some (vI x1)], [], σ9) else (79, [some (vR 111), some (vI x1)], [], σ9))) rfl ?_
      refine run_ite hf (fun _ hf => ?_) (fun _ hf => ?_)
      · refine run_seg (k := 3) (s' := (85, [some (vR 111), some (vI x1)], [vI 20, vI 1, vR 111], σ9)) rfl ?_
        refine run_callW (w := fun a => some (vI a)) (m := 239) (as := [vR 111, vI 1, vI 20]) (pc := 88) (ls := [some (vR 111), some (vI x1)]) (st' := []) (σ := σ9) hf rfl (fun _ _ h => (c_M_readOf h).mono (by decide)) (fun r10 σ11 hf => ?_)
        refine run_seg (k := 1) (s' := (if r10 = 0 then (91, [some (vR 111), some (vI x1)], [], σ11) else (93, [some (vR 111), some (vI x1)], [], σ11))) rfl ?_
        refine run_ite hf (fun _ hf => ?_) (fun _ hf => ?_)
        · refine run_seg (k := 1) (s' := (92, [some (vR 111), some (vI x1)], [vI 0], σ11)) rfl ?_
          exact run_ret hf rfl
        · refine run_seg (k := 9) (s' := (107, [some (vR 111), some (vI x1)], [vI (σ11 111 24), vI (w32 (28 + (w32 (2 * x1)))), vR 114], σ11)) rfl ?_
          refine run_guard (s' := (108, [some (vR 111), some (vI x1)], [], upS σ11 114 (w32 (28 + (w32 (2 * x1)))).toNat (σ11 111 24))) hf rfl (fun hf => ?_)
          refine run_let (fun σ12 => (108, [some (vR 111), some (vI x1)], [], σ12)) hf (fun σ12 hf => ?_)
          refine run_seg (k := 11) (s' := (124, [some (vR 111), some (vI x1)], [vI (σ12 111 13), vI (w32 ((w32 (28 + (w32 (2 * x1)))) + 1)), vR 114], σ12)) rfl ?_
          refine run_guard (s' := (125, [some (vR 111), some (vI x1)], [], upS σ12 114 (w32 ((w32 (28 + (w32 (2 * x1)))) + 1)).toNat (σ12 111 13))) hf rfl (fun hf => ?_)
          refine run_let (fun σ13 => (125, [some (vR 111), some (vI x1)], [], σ13)) hf (fun σ13 hf => ?_)
          refine run_seg (k := 1) (s' := (126, [some (vR 111), some (vI x1)], [vI 1], σ13)) rfl ?_
          exact run_ret hf rfl
      · refine run_seg (k := 1) (s' := (80, [some (vR 111), some (vI x1)], [vI 1], σ9)) rfl ?_
        exact run_ret hf rfl
def f_M_table_94 (k37 : (Int → xSt → Option (Int × xSt))) (l1 : Int) (s0 : Int) (σ : xSt) : Option (Int × xSt) :=
  if s0 = 0 then (some (w32 ((-1) - (σ 111 11)), σ))
  else (xbW (f_M_readSign 59 σ) fun r20 σ21 =>
  if r20 = 0 then (some (w32 ((-1) - (σ21 111 11)), σ21))
  else (xlet (w32 (l1 + 1)) fun x22 =>
  k37 x22 σ21))
def f_M_table_192 : Nat → Int → Int → xSt → Option (Int × xSt)
  | 0, _, _, _ => none
  | n + 1, l1, l2, σ =>
    if l2 < 9 then (if 0 ≤ l2 ∧ l2 < 9 then (
    if 0 ≤ l2 ∧ l2 < 9 then (
    xlet (upS σ 117 l2.toNat (σ 118 l2.toNat)) fun σ25 =>
    xlet (w32 (l2 + 1)) fun x26 =>
    f_M_table_192 n l1 x26 σ25) else none) else none)
    else (some (l1, σ))
def f_M_table_170 : Nat → Int → Int → xSt → Option (Int × xSt)
  | 0, _, _, _ => none
  | n + 1, l1, l2, σ =>
    if l2 < 924 then (if 0 ≤ l2 ∧ l2 < 924 then (
    xlet (upS σ 113 l2.toNat 0) fun σ23 =>
    xlet (w32 (l2 + 1)) fun x24 =>
    f_M_table_170 n l1 x24 σ23) else none)
    else (f_M_table_192 1000000 l1 0 σ)
def f_M_table_143 : Nat → Int → Int → xSt → Option (Int × xSt)
  | 0, _, _, _ => none
  | n + 1, l1, l2, σ =>
    if l2 < 41 then (if 0 ≤ l2 ∧ l2 < 41 then (
    if 0 ≤ l2 ∧ l2 < 924 then (
    xlet (upS σ 113 l2.toNat (σ 114 l2.toNat)) fun σ18 =>
    xlet (w32 (l2 + 1)) fun x19 =>
    f_M_table_143 n l1 x19 σ18) else none) else none)
    else (f_M_table_170 1000000 l1 41 σ)
def f_M_table_37 : Nat → Int → xSt → Option (Int × xSt)
  | 0, _, _ => none
  | n + 1, l1, σ =>
    if σ 111 7 = 0 then (xlet (upS σ 111 23 (w32 ((σ 111 23) + 1))) fun σ5 =>
    xlet (upS σ5 114 3 (σ5 111 23)) fun σ6 =>
    f_M_table_143 1000000 l1 0 σ6)
    else (xbR (f_M_isWord 0 σ) fun r7 =>
    if r7 = 0 then (xbR (f_M_isWord 2 σ) fun r8 =>
    if r8 = 0 then (xbR (f_M_isWord 3 σ) fun r9 =>
    if r9 = 0 then (xbW (f_M_bad 1 σ) fun r10 σ11 =>
    f_M_table_94 (fun z0 sz => f_M_table_37 n z0 sz) l1 r10 σ11)
    else (xbW (f_M_readEnd σ) fun r12 σ13 =>
    f_M_table_94 (fun z0 sz => f_M_table_37 n z0 sz) l1 r12 σ13))
    else (xbW (f_M_readWheel σ) fun r14 σ15 =>
    f_M_table_94 (fun z0 sz => f_M_table_37 n z0 sz) l1 r14 σ15))
    else (xbW (f_M_readCoin σ) fun r16 σ17 =>
    f_M_table_94 (fun z0 sz => f_M_table_37 n z0 sz) l1 r16 σ17))
def f_M_table_9 : Nat → Int → xSt → Option (Int × xSt)
  | 0, _, _ => none
  | n + 1, l1, σ =>
    if l1 < 41 then (if 0 ≤ l1 ∧ l1 < 41 then (
    xlet (upS σ 114 l1.toNat 0) fun σ2 =>
    xlet (w32 (l1 + 1)) fun x3 =>
    f_M_table_9 n x3 σ2) else none)
    else (xlet (upS σ 114 2 (-1)) fun σ4 =>
    f_M_table_37 1000000 0 σ4)
/-- BentPennyModel.table()I -/
def f_M_table (σ : xSt) : Option (Int × xSt) :=
  xbR (f_M_begin 500 σ) fun σ1 =>
  f_M_table_9 1000000 0 σ1
theorem r_M_table_94 {k37 : (Int → xSt → Option (Int × xSt))} (hk37 : ∀ {l1 : Int} {g2 : Option xV} {σ : xSt} {r : Int × xSt}, k37 l1 σ = some r → Run 5 12 1 kX12_table (37, [some (vR 111), some (vI l1), g2], [], σ) (tIW r)) {l1 : Int} {s0 : Int} {g2 : Option xV} {σ : xSt} {r : Int × xSt} (hf : f_M_table_94 k37 l1 s0 σ = some r) : Run 5 12 1 kX12_table (94, [some (vR 111), some (vI l1), g2], [vI s0], σ) (tIW r) := by
  unfold f_M_table_94 at hf
  refine run_seg (k := 3) (s' := (if s0 = 0 then (108, [some (vR 111), some (vI l1), some (vI s0)], [], σ) else (99, [some (vR 111), some (vI l1), some (vI s0)], [], σ))) rfl ?_
  refine run_ite hf (fun _ hf => ?_) (fun _ hf => ?_)
  · refine run_seg (k := 4) (s' := (114, [some (vR 111), some (vI l1), some (vI s0)], [vI (w32 ((-1) - (σ 111 11)))], σ)) rfl ?_
    exact run_ret hf rfl
  · refine run_seg (k := 2) (s' := (102, [some (vR 111), some (vI l1), some (vI s0)], [vI 59, vR 111], σ)) rfl ?_
    refine run_callW (w := fun a => some (vI a)) (m := 231) (as := [vR 111, vI 59]) (pc := 105) (ls := [some (vR 111), some (vI l1), some (vI s0)]) (st' := []) (σ := σ) hf rfl (fun _ _ h => (c_M_readSign h).mono (by decide)) (fun r20 σ21 hf => ?_)
    refine run_seg (k := 1) (s' := (if r20 = 0 then (108, [some (vR 111), some (vI l1), some (vI s0)], [], σ21) else (115, [some (vR 111), some (vI l1), some (vI s0)], [], σ21))) rfl ?_
    refine run_ite hf (fun _ hf => ?_) (fun _ hf => ?_)
    · refine run_seg (k := 4) (s' := (114, [some (vR 111), some (vI l1), some (vI s0)], [vI (w32 ((-1) - (σ21 111 11)))], σ21)) rfl ?_
      exact run_ret hf rfl
    · refine run_seg (k := 1) (s' := (118, [some (vR 111), some (vI (w32 (l1 + 1))), some (vI s0)], [], σ21)) rfl ?_
      refine run_let (fun x22 => (118, [some (vR 111), some (vI x22), some (vI s0)], [], σ21)) hf (fun x22 hf => ?_)
      refine run_seg (k := 1) (s' := (37, [some (vR 111), some (vI x22), some (vI s0)], [], σ21)) rfl ?_
      exact hk37 hf
theorem r_M_table_192 : ∀ (n : Nat) {l1 : Int} {l2 : Int} {σ : xSt} {r : Int × xSt}, f_M_table_192 n l1 l2 σ = some r → Run 5 12 1 kX12_table (192, [some (vR 111), some (vI l1), some (vI l2)], [], σ) (tIW r) := by
  intro n
  induction n with
  | zero =>
    intro _ _ _ _ h
    exact nomatch (show (none : Option (Int × xSt)) = some _ from h)
  | succ n ih =>
    intro l1 l2 σ r hf
    unfold f_M_table_192 at hf
    refine run_seg (k := 3) (s' := (if l2 < 9 then (198, [some (vR 111), some (vI l1), some (vI l2)], [], σ) else (216, [some (vR 111), some (vI l1), some (vI l2)], [], σ))) rfl ?_
    refine run_ite hf (fun _ hf => ?_) (fun _ hf => ?_)
    · refine run_seg (k := 6) (s' := (208, [some (vR 111), some (vI l1), some (vI l2)], [vI l2, vR 118, vI l2, vR 117], σ)) rfl ?_
      refine run_guard (s' := (209, [some (vR 111), some (vI l1), some (vI l2)], [vL (σ 118 l2.toNat), vI l2, vR 117], σ)) hf rfl (fun hf => ?_)
      refine run_guard (s' := (210, [some (vR 111), some (vI l1), some (vI l2)], [], upS σ 117 l2.toNat (σ 118 l2.toNat))) hf rfl (fun hf => ?_)
      refine run_let (fun σ25 => (210, [some (vR 111), some (vI l1), some (vI l2)], [], σ25)) hf (fun σ25 hf => ?_)
      refine run_seg (k := 1) (s' := (213, [some (vR 111), some (vI l1), some (vI (w32 (l2 + 1)))], [], σ25)) rfl ?_
      refine run_let (fun x26 => (213, [some (vR 111), some (vI l1), some (vI x26)], [], σ25)) hf (fun x26 hf => ?_)
      refine run_seg (k := 1) (s' := (192, [some (vR 111), some (vI l1), some (vI x26)], [], σ25)) rfl ?_
      exact ih hf
    · refine run_seg (k := 1) (s' := (217, [some (vR 111), some (vI l1), some (vI l2)], [vI l1], σ)) rfl ?_
      exact run_ret hf rfl
theorem r_M_table_170 : ∀ (n : Nat) {l1 : Int} {l2 : Int} {σ : xSt} {r : Int × xSt}, f_M_table_170 n l1 l2 σ = some r → Run 5 12 1 kX12_table (170, [some (vR 111), some (vI l1), some (vI l2)], [], σ) (tIW r) := by
  intro n
  induction n with
  | zero =>
    intro _ _ _ _ h
    exact nomatch (show (none : Option (Int × xSt)) = some _ from h)
  | succ n ih =>
    intro l1 l2 σ r hf
    unfold f_M_table_170 at hf
    refine run_seg (k := 3) (s' := (if l2 < 924 then (177, [some (vR 111), some (vI l1), some (vI l2)], [], σ) else (190, [some (vR 111), some (vI l1), some (vI l2)], [], σ))) rfl ?_
    refine run_ite hf (fun _ hf => ?_) (fun _ hf => ?_)
    · refine run_seg (k := 4) (s' := (183, [some (vR 111), some (vI l1), some (vI l2)], [vI 0, vI l2, vR 113], σ)) rfl ?_
      refine run_guard (s' := (184, [some (vR 111), some (vI l1), some (vI l2)], [], upS σ 113 l2.toNat 0)) hf rfl (fun hf => ?_)
      refine run_let (fun σ23 => (184, [some (vR 111), some (vI l1), some (vI l2)], [], σ23)) hf (fun σ23 hf => ?_)
      refine run_seg (k := 1) (s' := (187, [some (vR 111), some (vI l1), some (vI (w32 (l2 + 1)))], [], σ23)) rfl ?_
      refine run_let (fun x24 => (187, [some (vR 111), some (vI l1), some (vI x24)], [], σ23)) hf (fun x24 hf => ?_)
      refine run_seg (k := 1) (s' := (170, [some (vR 111), some (vI l1), some (vI x24)], [], σ23)) rfl ?_
      exact ih hf
    · refine run_seg (k := 2) (s' := (192, [some (vR 111), some (vI l1), some (vI 0)], [], σ)) rfl ?_
      exact r_M_table_192 1000000 hf
theorem r_M_table_143 : ∀ (n : Nat) {l1 : Int} {l2 : Int} {σ : xSt} {r : Int × xSt}, f_M_table_143 n l1 l2 σ = some r → Run 5 12 1 kX12_table (143, [some (vR 111), some (vI l1), some (vI l2)], [], σ) (tIW r) := by
  intro n
  induction n with
  | zero =>
    intro _ _ _ _ h
    exact nomatch (show (none : Option (Int × xSt)) = some _ from h)
  | succ n ih =>
    intro l1 l2 σ r hf
    unfold f_M_table_143 at hf
    refine run_seg (k := 3) (s' := (if l2 < 41 then (149, [some (vR 111), some (vI l1), some (vI l2)], [], σ) else (167, [some (vR 111), some (vI l1), some (vI l2)], [], σ))) rfl ?_
    refine run_ite hf (fun _ hf => ?_) (fun _ hf => ?_)
    · refine run_seg (k := 6) (s' := (159, [some (vR 111), some (vI l1), some (vI l2)], [vI l2, vR 114, vI l2, vR 113], σ)) rfl ?_
      refine run_guard (s' := (160, [some (vR 111), some (vI l1), some (vI l2)], [vI (σ 114 l2.toNat), vI l2, vR 113], σ)) hf rfl (fun hf => ?_)
      refine run_guard (s' := (161, [some (vR 111), some (vI l1), some (vI l2)], [], upS σ 113 l2.toNat (σ 114 l2.toNat))) hf rfl (fun hf => ?_)
      refine run_let (fun σ18 => (161, [some (vR 111), some (vI l1), some (vI l2)], [], σ18)) hf (fun σ18 hf => ?_)
      refine run_seg (k := 1) (s' := (164, [some (vR 111), some (vI l1), some (vI (w32 (l2 + 1)))], [], σ18)) rfl ?_
      refine run_let (fun x19 => (164, [some (vR 111), some (vI l1), some (vI x19)], [], σ18)) hf (fun x19 hf => ?_)
      refine run_seg (k := 1) (s' := (143, [some (vR 111), some (vI l1), some (vI x19)], [], σ18)) rfl ?_
      exact ih hf
    · refine run_seg (k := 2) (s' := (170, [some (vR 111), some (vI l1), some (vI 41)], [], σ)) rfl ?_
      exact r_M_table_170 1000000 hf
theorem r_M_table_37 : ∀ (n : Nat) {l1 : Int} {g2 : Option xV} {σ : xSt} {r : Int × xSt}, f_M_table_37 n l1 σ = some r → Run 5 12 1 kX12_table (37, [some (vR 111), some (vI l1), g2], [], σ) (tIW r) := by
  intro n
  induction n with
  | zero =>
    intro _ _ _ _ h
    exact nomatch (show (none : Option (Int × xSt)) = some _ from h)
  | succ n ih =>
    intro l1 g2 σ r hf
    unfold f_M_table_37 at hf
    refine run_seg (k := 3) (s' := (if σ 111 7 = 0 then (121, [some (vR 111), some (vI l1), g2], [], σ) else (44, [some (vR 111), some (vI l1), g2], [], σ))) rfl ?_
    refine run_ite hf (fun _ hf => ?_) (fun _ hf => ?_)
    · refine run_seg (k := 6) (s' := (131, [some (vR 111), some (vI l1), g2], [], upS σ 111 23 (w32 ((σ 111 23) + 1)))) rfl ?_
      refine run_let (fun σ5 => (131, [some (vR 111), some (vI l1), g2], [], σ5)) hf (fun σ5 hf => ?_)
      refine run_seg (k := 6) (s' := (141, [some (vR 111), some (vI l1), g2], [], upS σ5 114 3 (σ5 111 23))) rfl ?_
      refine run_let (fun σ6 => (141, [some (vR 111), some (vI l1), g2], [], σ6)) hf (fun σ6 hf => ?_)
      refine run_seg (k := 2) (s' := (143, [some (vR 111), some (vI l1), some (vI 0)], [], σ6)) rfl ?_
      exact r_M_table_143 1000000 hf
    · refine run_seg (k := 2) (s' := (46, [some (vR 111), some (vI l1), g2], [vI 0, vR 111], σ)) rfl ?_
      refine run_callN (w := fun a => some (vI a)) (m := 226) (as := [vR 111, vI 0]) (pc := 49) (ls := [some (vR 111), some (vI l1), g2]) (st' := []) (σ := σ) hf rfl (fun _ h => (c_M_isWord h).mono (by decide)) (fun r7 hf => ?_)
      refine run_seg (k := 1) (s' := (if r7 = 0 then (59, [some (vR 111), some (vI l1), g2], [], σ) else (52, [some (vR 111), some (vI l1), g2], [], σ))) rfl ?_
      refine run_ite hf (fun _ hf => ?_) (fun _ hf => ?_)
      · refine run_seg (k := 2) (s' := (61, [some (vR 111), some (vI l1), g2], [vI 2, vR 111], σ)) rfl ?_
        refine run_callN (w := fun a => some (vI a)) (m := 226) (as := [vR 111, vI 2]) (pc := 64) (ls := [some (vR 111), some (vI l1), g2]) (st' := []) (σ := σ) hf rfl (fun _ h => (c_M_isWord h).mono (by decide)) (fun r8 hf => ?_)
        refine run_seg (k := 1) (s' := (if r8 = 0 then (74, [some (vR 111), some (vI l1), g2], [], σ) else (67, [some (vR 111), some (vI l1), g2], [], σ))) rfl ?_
        refine run_ite hf (fun _ hf => ?_) (fun _ hf => ?_)
        · refine run_seg (k := 2) (s' := (76, [some (vR 111), some (vI l1), g2], [vI 3, vR 111], σ)) rfl ?_
          refine run_callN (w := fun a => some (vI a)) (m := 226) (as := [vR 111, vI 3]) (pc := 79) (ls := [some (vR 111), some (vI l1), g2]) (st' := []) (σ := σ) hf rfl (fun _ h => (c_M_isWord h).mono (by decide)) (fun r9 hf => ?_)
          refine run_seg (k := 1) (s' := (if r9 = 0 then (89, [some (vR 111), some (vI l1), g2], [], σ) else (82, [some (vR 111), some (vI l1), g2], [], σ))) rfl ?_
          refine run_ite hf (fun _ hf => ?_) (fun _ hf => ?_)
          · refine run_seg (k := 2) (s' := (91, [some (vR 111), some (vI l1), g2], [vI 1, vR 111], σ)) rfl ?_
            refine run_callW (w := fun a => some (vI a)) (m := 229) (as := [vR 111, vI 1]) (pc := 94) (ls := [some (vR 111), some (vI l1), g2]) (st' := []) (σ := σ) hf rfl (fun _ _ h => (c_M_bad h).mono (by decide)) (fun r10 σ11 hf => ?_)
            exact r_M_table_94 (fun h => ih h) hf
          · refine run_seg (k := 1) (s' := (83, [some (vR 111), some (vI l1), g2], [vR 111], σ)) rfl ?_
            refine run_callW (w := fun a => some (vI a)) (m := 242) (as := [vR 111]) (pc := 86) (ls := [some (vR 111), some (vI l1), g2]) (st' := []) (σ := σ) hf rfl (fun _ _ h => (c_M_readEnd h).mono (by decide)) (fun r12 σ13 hf => ?_)
            refine run_seg (k := 1) (s' := (94, [some (vR 111), some (vI l1), g2], [vI r12], σ13)) rfl ?_
            exact r_M_table_94 (fun h => ih h) hf
        · refine run_seg (k := 1) (s' := (68, [some (vR 111), some (vI l1), g2], [vR 111], σ)) rfl ?_
          refine run_callW (w := fun a => some (vI a)) (m := 241) (as := [vR 111]) (pc := 71) (ls := [some (vR 111), some (vI l1), g2]) (st' := []) (σ := σ) hf rfl (fun _ _ h => (c_M_readWheel h).mono (by decide)) (fun r14 σ15 hf => ?_)
          refine run_seg (k := 1) (s' := (94, [some (vR 111), some (vI l1), g2], [vI r14], σ15)) rfl ?_
          exact r_M_table_94 (fun h => ih h) hf
      · refine run_seg (k := 1) (s' := (53, [some (vR 111), some (vI l1), g2], [vR 111], σ)) rfl ?_
        refine run_callW (w := fun a => some (vI a)) (m := 240) (as := [vR 111]) (pc := 56) (ls := [some (vR 111), some (vI l1), g2]) (st' := []) (σ := σ) hf rfl (fun _ _ h => (c_M_readCoin h).mono (by decide)) (fun r16 σ17 hf => ?_)
        refine run_seg (k := 1) (s' := (94, [some (vR 111), some (vI l1), g2], [vI r16], σ17)) rfl ?_
        exact r_M_table_94 (fun h => ih h) hf
theorem r_M_table_9 : ∀ (n : Nat) {l1 : Int} {g2 : Option xV} {σ : xSt} {r : Int × xSt}, f_M_table_9 n l1 σ = some r → Run 5 12 1 kX12_table (9, [some (vR 111), some (vI l1), g2], [], σ) (tIW r) := by
  intro n
  induction n with
  | zero =>
    intro _ _ _ _ h
    exact nomatch (show (none : Option (Int × xSt)) = some _ from h)
  | succ n ih =>
    intro l1 g2 σ r hf
    unfold f_M_table_9 at hf
    refine run_seg (k := 3) (s' := (if l1 < 41 then (15, [some (vR 111), some (vI l1), g2], [], σ) else (28, [some (vR 111), some (vI l1), g2], [], σ))) rfl ?_
    refine run_ite hf (fun _ hf => ?_) (fun _ hf => ?_)
    · refine run_seg (k := 4) (s' := (21, [some (vR 111), some (vI l1), g2], [vI 0, vI l1, vR 114], σ)) rfl ?_
      refine run_guard (s' := (22, [some (vR 111), some (vI l1), g2], [], upS σ 114 l1.toNat 0)) hf rfl (fun hf => ?_)
      refine run_let (fun σ2 => (22, [some (vR 111), some (vI l1), g2], [], σ2)) hf (fun σ2 hf => ?_)
      refine run_seg (k := 1) (s' := (25, [some (vR 111), some (vI (w32 (l1 + 1))), g2], [], σ2)) rfl ?_
      refine run_let (fun x3 => (25, [some (vR 111), some (vI x3), g2], [], σ2)) hf (fun x3 hf => ?_)
      refine run_seg (k := 1) (s' := (9, [some (vR 111), some (vI x3), g2], [], σ2)) rfl ?_
      exact ih hf
    · refine run_seg (k := 5) (s' := (35, [some (vR 111), some (vI l1), g2], [], upS σ 114 2 (-1))) rfl ?_
      refine run_let (fun σ4 => (35, [some (vR 111), some (vI l1), g2], [], σ4)) hf (fun σ4 hf => ?_)
      refine run_seg (k := 2) (s' := (37, [some (vR 111), some (vI 0), g2], [], σ4)) rfl ?_
      exact r_M_table_37 1000000 hf
theorem c_M_table {σ : xSt} {r : Int × xSt} (hf : f_M_table σ = some r) : Call (5 + 1) 243 [vR 111] σ (tIW r).1 (tIW r).2 := by
  unfold f_M_table at hf
  refine call_of (own := 12) (rk := 1) (cd := kX12_table) (ls := [some (vR 111), none, none]) (rT := tIW) rfl rfl rfl rfl rfl ?_
  refine run_seg (k := 2) (s' := (4, [some (vR 111), none, none], [vI 500, vR 111], σ)) rfl ?_
  refine run_callV (m := 232) (as := [vR 111, vI 500]) (pc := 7) (ls := [some (vR 111), none, none]) (st' := []) (σ := σ) hf rfl (fun _ h => (c_M_begin h).mono (by decide)) (fun σ1 hf => ?_)
  refine run_seg (k := 2) (s' := (9, [some (vR 111), some (vI 0), none], [], σ1)) rfl ?_
  exact r_M_table_9 1000000 hf
/-- BentPennyModel.fault()I -/
def f_M_fault (σ : xSt) : Option (Int × xSt) :=
  xlet (upS σ 111 0 0) fun σ1 =>
  some (σ1 111 10, σ1)
theorem c_M_fault {σ : xSt} {r : Int × xSt} (hf : f_M_fault σ = some r) : Call (0 + 1) 244 [vR 111] σ (tIW r).1 (tIW r).2 := by
  unfold f_M_fault at hf
  refine call_of (own := 12) (rk := 1) (cd := kX12_fault) (ls := [some (vR 111)]) (rT := tIW) rfl rfl rfl rfl rfl ?_
  refine run_seg (k := 3) (s' := (5, [some (vR 111)], [], upS σ 111 0 0)) rfl ?_
  refine run_let (fun σ1 => (5, [some (vR 111)], [], σ1)) hf (fun σ1 hf => ?_)
  refine run_seg (k := 2) (s' := (9, [some (vR 111)], [vI (σ1 111 10)], σ1)) rfl ?_
  exact run_ret hf rfl
/-- BentPennyModel.things()I -/
def f_M_things (σ : xSt) : Option (Int) :=
  some (σ 113 0)
theorem c_M_things {σ : xSt} {r : Int} (hf : f_M_things σ = some r) : Call (0 + 1) 245 [vR 111] σ ((tI σ) r).1 ((tI σ) r).2 := by
  unfold f_M_things at hf
  refine call_of (own := 12) (rk := 1) (cd := kX12_things) (ls := [some (vR 111)]) (rT := (tI σ)) rfl rfl rfl rfl rfl ?_
  refine run_seg (k := 4) (s' := (6, [some (vR 111)], [vI (σ 113 0)], σ)) rfl ?_
  exact run_ret hf rfl
/-- BentPennyModel.ends()I -/
def f_M_ends (σ : xSt) : Option (Int) :=
  some (σ 113 1)
theorem c_M_ends {σ : xSt} {r : Int} (hf : f_M_ends σ = some r) : Call (0 + 1) 246 [vR 111] σ ((tI σ) r).1 ((tI σ) r).2 := by
  unfold f_M_ends at hf
  refine call_of (own := 12) (rk := 1) (cd := kX12_ends) (ls := [some (vR 111)]) (rT := (tI σ)) rfl rfl rfl rfl rfl ?_
  refine run_seg (k := 4) (s' := (6, [some (vR 111)], [vI (σ 113 1)], σ)) rfl ?_
  exact run_ret hf rfl
/-- BentPennyModel.isThing(I)Z -/
def f_M_isThing (p1 : Int) (σ : xSt) : Option (Int) :=
  if p1 < 0 then (some 0)
  else (xbR (f_M_things σ) fun r1 =>
  if p1 < r1 then (some 1)
  else (some 0))
theorem c_M_isThing {p1 : Int} {σ : xSt} {r : Int} (hf : f_M_isThing p1 σ = some r) : Call (1 + 1) 247 [vR 111, vI p1] σ ((tI σ) r).1 ((tI σ) r).2 := by
  unfold f_M_isThing at hf
  refine call_of (own := 12) (rk := 2) (cd := kX12_isThing) (ls := [some (vR 111), some (vI p1)]) (rT := (tI σ)) rfl rfl rfl rfl rfl ?_
  refine run_seg (k := 2) (s' := (if p1 < 0 then (16, [some (vR 111), some (vI p1)], [], σ) else (4, [some (vR 111), some (vI p1)], [], σ))) rfl ?_
  refine run_ite hf (fun _ hf => ?_) (fun _ hf => ?_)
  · refine run_seg (k := 1) (s' := (17, [some (vR 111), some (vI p1)], [vI 0], σ)) rfl ?_
    exact run_ret hf rfl
  · refine run_seg (k := 2) (s' := (6, [some (vR 111), some (vI p1)], [vR 111, vI p1], σ)) rfl ?_
    refine run_callN (w := fun a => some (vI a)) (m := 245) (as := [vR 111]) (pc := 9) (ls := [some (vR 111), some (vI p1)]) (st' := [vI p1]) (σ := σ) hf rfl (fun _ h => (c_M_things h).mono (by decide)) (fun r1 hf => ?_)
    refine run_seg (k := 1) (s' := (if p1 < r1 then (12, [some (vR 111), some (vI p1)], [], σ) else (16, [some (vR 111), some (vI p1)], [], σ))) rfl ?_
    refine run_ite hf (fun _ hf => ?_) (fun _ hf => ?_)
    · refine run_seg (k := 2) (s' := (17, [some (vR 111), some (vI p1)], [vI 1], σ)) rfl ?_
      exact run_ret hf rfl
    · refine run_seg (k := 1) (s' := (17, [some (vR 111), some (vI p1)], [vI 0], σ)) rfl ?_
      exact run_ret hf rfl
/-- BentPennyModel.isEnd(I)Z -/
def f_M_isEnd (p1 : Int) (σ : xSt) : Option (Int) :=
  if p1 < 0 then (some 0)
  else (xbR (f_M_ends σ) fun r1 =>
  if p1 < r1 then (some 1)
  else (some 0))
theorem c_M_isEnd {p1 : Int} {σ : xSt} {r : Int} (hf : f_M_isEnd p1 σ = some r) : Call (1 + 1) 248 [vR 111, vI p1] σ ((tI σ) r).1 ((tI σ) r).2 := by
  unfold f_M_isEnd at hf
  refine call_of (own := 12) (rk := 2) (cd := kX12_isEnd) (ls := [some (vR 111), some (vI p1)]) (rT := (tI σ)) rfl rfl rfl rfl rfl ?_
  refine run_seg (k := 2) (s' := (if p1 < 0 then (16, [some (vR 111), some (vI p1)], [], σ) else (4, [some (vR 111), some (vI p1)], [], σ))) rfl ?_
  refine run_ite hf (fun _ hf => ?_) (fun _ hf => ?_)
  · refine run_seg (k := 1) (s' := (17, [some (vR 111), some (vI p1)], [vI 0], σ)) rfl ?_
    exact run_ret hf rfl
  · refine run_seg (k := 2) (s' := (6, [some (vR 111), some (vI p1)], [vR 111, vI p1], σ)) rfl ?_
    refine run_callN (w := fun a => some (vI a)) (m := 246) (as := [vR 111]) (pc := 9) (ls := [some (vR 111), some (vI p1)]) (st' := [vI p1]) (σ := σ) hf rfl (fun _ h => (c_M_ends h).mono (by decide)) (fun r1 hf => ?_)
    refine run_seg (k := 1) (s' := (if p1 < r1 then (12, [some (vR 111), some (vI p1)], [], σ) else (16, [some (vR 111), some (vI p1)], [], σ))) rfl ?_
    refine run_ite hf (fun _ hf => ?_) (fun _ hf => ?_)
    · refine run_seg (k := 2) (s' := (17, [some (vR 111), some (vI p1)], [vI 1], σ)) rfl ?_
      exact run_ret hf rfl
    · refine run_seg (k := 1) (s' := (17, [some (vR 111), some (vI p1)], [vI 0], σ)) rfl ?_
      exact run_ret hf rfl
/-- BentPennyModel.sidesOf([II)I -/
def f_M_sidesOf (p1 : Int) (σ : xSt) : Option (Int) :=
  if 0 ≤ w32 (4 + (w32 (8 * p1))) ∧ w32 (4 + (w32 (8 * p1))) < 924 then (
  some (σ 113 (w32 (4 + (w32 (8 * p1)))).toNat)) else none
theorem c_M_sidesOf {p1 : Int} {σ : xSt} {r : Int} (hf : f_M_sidesOf p1 σ = some r) : Call (0 + 1) 234 [vR 113, vI p1] σ ((tI σ) r).1 ((tI σ) r).2 := by
  unfold f_M_sidesOf at hf
  refine call_of (own := 12) (rk := 1) (cd := kX12_sidesOf) (ls := [some (vR 113), some (vI p1)]) (rT := (tI σ)) rfl rfl rfl rfl rfl ?_
  refine run_seg (k := 6) (s' := (7, [some (vR 113), some (vI p1)], [vI (w32 (4 + (w32 (8 * p1)))), vR 113], σ)) rfl ?_
  refine run_guard (s' := (8, [some (vR 113), some (vI p1)], [vI (σ 113 (w32 (4 + (w32 (8 * p1)))).toNat)], σ)) hf rfl (fun hf => ?_)
  exact run_ret hf rfl
/-- BentPennyModel.partsOf([II)I -/
def f_M_partsOf (p1 : Int) (σ : xSt) : Option (Int) :=
  if 0 ≤ w32 ((w32 (4 + (w32 (8 * p1)))) + 1) ∧ w32 ((w32 (4 + (w32 (8 * p1)))) + 1) < 924 then (
  some (σ 113 (w32 ((w32 (4 + (w32 (8 * p1)))) + 1)).toNat)) else none
theorem c_M_partsOf {p1 : Int} {σ : xSt} {r : Int} (hf : f_M_partsOf p1 σ = some r) : Call (0 + 1) 235 [vR 113, vI p1] σ ((tI σ) r).1 ((tI σ) r).2 := by
  unfold f_M_partsOf at hf
  refine call_of (own := 12) (rk := 1) (cd := kX12_partsOf) (ls := [some (vR 113), some (vI p1)]) (rT := (tI σ)) rfl rfl rfl rfl rfl ?_
  refine run_seg (k := 8) (s' := (9, [some (vR 113), some (vI p1)], [vI (w32 ((w32 (4 + (w32 (8 * p1)))) + 1)), vR 113], σ)) rfl ?_
  refine run_guard (s' := (10, [some (vR 113), some (vI p1)], [vI (σ 113 (w32 ((w32 (4 + (w32 (8 * p1)))) + 1)).toNat)], σ)) hf rfl (fun hf => ?_)
  exact run_ret hf rfl
def f_M_thing_21 (σ : xSt) : Option (Int × xSt) :=
  xbW (f_M_refuse σ) fun r7 σ8 =>
  some (r7, σ8)
/-- BentPennyModel.thing(II)I -/
def f_M_thing (p1 : Int) (p2 : Int) (σ : xSt) : Option (Int × xSt) :=
  xbR (f_M_lay σ) fun σ1 =>
  xbR (f_M_isThing p1 σ1) fun r2 =>
  if r2 = 0 then (f_M_thing_21 σ1)
  else (xbR (f_M_isIn p2 0 2 σ1) fun r3 =>
  if r3 = 0 then (f_M_thing_21 σ1)
  else (xlet (upS σ1 111 0 0) fun σ4 =>
  if p2 = 0 then (xbR (f_M_sidesOf p1 σ4) fun r5 =>
  some (r5, σ4))
  else (if p2 = 1 then (xbR (f_M_partsOf p1 σ4) fun r6 =>
  some (r6, σ4))
  else (if σ4 113 2 = p1 then (some (1, σ4))
  else (some (0, σ4))))))
theorem r_M_thing_21 {g1 : Option xV} {g2 : Option xV} {σ : xSt} {r : Int × xSt} (hf : f_M_thing_21 σ = some r) : Run 2 12 1 kX12_thing (21, [some (vR 111), g1, g2], [], σ) (tIW r) := by
  unfold f_M_thing_21 at hf
  refine run_seg (k := 1) (s' := (22, [some (vR 111), g1, g2], [vR 111], σ)) rfl ?_
  refine run_callW (w := fun a => some (vI a)) (m := 210) (as := [vR 111]) (pc := 25) (ls := [some (vR 111), g1, g2]) (st' := []) (σ := σ) hf rfl (fun _ _ h => (c_M_refuse h).mono (by decide)) (fun r7 σ8 hf => ?_)
  exact run_ret hf rfl
theorem c_M_thing {p1 : Int} {p2 : Int} {σ : xSt} {r : Int × xSt} (hf : f_M_thing p1 p2 σ = some r) : Call (2 + 1) 249 [vR 111, vI p1, vI p2] σ (tIW r).1 (tIW r).2 := by
  unfold f_M_thing at hf
  refine call_of (own := 12) (rk := 1) (cd := kX12_thing) (ls := [some (vR 111), some (vI p1), some (vI p2)]) (rT := tIW) rfl rfl rfl rfl rfl ?_
  refine run_seg (k := 1) (s' := (1, [some (vR 111), some (vI p1), some (vI p2)], [vR 111], σ)) rfl ?_
  refine run_callV (m := 233) (as := [vR 111]) (pc := 4) (ls := [some (vR 111), some (vI p1), some (vI p2)]) (st' := []) (σ := σ) hf rfl (fun _ h => (c_M_lay h).mono (by decide)) (fun σ1 hf => ?_)
  refine run_seg (k := 2) (s' := (6, [some (vR 111), some (vI p1), some (vI p2)], [vI p1, vR 111], σ1)) rfl ?_
  refine run_callN (w := fun a => some (vI a)) (m := 247) (as := [vR 111, vI p1]) (pc := 9) (ls := [some (vR 111), some (vI p1), some (vI p2)]) (st' := []) (σ := σ1) hf rfl (fun _ h => (c_M_isThing h).mono (by decide)) (fun r2 hf => ?_)
  refine run_seg (k := 1) (s' := (if r2 = 0 then (21, [some (vR 111), some (vI p1), some (vI p2)], [], σ1) else (12, [some (vR 111), some (vI p1), some (vI p2)], [], σ1))) rfl ?_
  refine run_ite hf (fun _ hf => ?_) (fun _ hf => ?_)
  · exact r_M_thing_21 hf
  · refine run_seg (k := 3) (s' := (15, [some (vR 111), some (vI p1), some (vI p2)], [vI 2, vI 0, vI p2], σ1)) rfl ?_
    refine run_callN (w := fun a => some (vI a)) (m := 216) (as := [vI p2, vI 0, vI 2]) (pc := 18) (ls := [some (vR 111), some (vI p1), some (vI p2)]) (st' := []) (σ := σ1) hf rfl (fun _ h => (c_M_isIn h).mono (by decide)) (fun r3 hf => ?_)
    refine run_seg (k := 1) (s' := (if r3 = 0 then (21, [some (vR 111), some (vI p1), some (vI p2)], [], σ1) else (26, [some (vR 111), some (vI p1), some (vI p2)], [], σ1))) rfl ?_
    refine run_ite hf (fun _ hf => ?_) (fun _ hf => ?_)
    · exact r_M_thing_21 hf
    · refine run_seg (k := 3) (s' := (31, [some (vR 111), some (vI p1), some (vI p2)], [], upS σ1 111 0 0)) rfl ?_
      refine run_let (fun σ4 => (31, [some (vR 111), some (vI p1), some (vI p2)], [], σ4)) hf (fun σ4 hf => ?_)
      refine run_seg (k := 2) (s' := (if p2 = 0 then (35, [some (vR 111), some (vI p1), some (vI p2)], [], σ4) else (46, [some (vR 111), some (vI p1), some (vI p2)], [], σ4))) rfl ?_
      refine run_ite hf (fun _ hf => ?_) (fun _ hf => ?_)
      · refine run_seg (k := 3) (s' := (40, [some (vR 111), some (vI p1), some (vI p2)], [vI p1, vR 113], σ4)) rfl ?_
        refine run_callN (w := fun a => some (vI a)) (m := 234) (as := [vR 113, vI p1]) (pc := 43) (ls := [some (vR 111), some (vI p1), some (vI p2)]) (st' := []) (σ := σ4) hf rfl (fun _ h => (c_M_sidesOf h).mono (by decide)) (fun r5 hf => ?_)
        refine run_seg (k := 1) (s' := (77, [some (vR 111), some (vI p1), some (vI p2)], [vI r5], σ4)) rfl ?_
        exact run_ret hf rfl
      · refine run_seg (k := 3) (s' := (if p2 = 1 then (51, [some (vR 111), some (vI p1), some (vI p2)], [], σ4) else (62, [some (vR 111), some (vI p1), some (vI p2)], [], σ4))) rfl ?_
        refine run_ite hf (fun _ hf => ?_) (fun _ hf => ?_)
        · refine run_seg (k := 3) (s' := (56, [some (vR 111), some (vI p1), some (vI p2)], [vI p1, vR 113], σ4)) rfl ?_
          refine run_callN (w := fun a => some (vI a)) (m := 235) (as := [vR 113, vI p1]) (pc := 59) (ls := [some (vR 111), some (vI p1), some (vI p2)]) (st' := []) (σ := σ4) hf rfl (fun _ h => (c_M_partsOf h).mono (by decide)) (fun r6 hf => ?_)
          refine run_seg (k := 1) (s' := (77, [some (vR 111), some (vI p1), some (vI p2)], [vI r6], σ4)) rfl ?_
          exact run_ret hf rfl
        · refine run_seg (k := 6) (s' := (if σ4 113 2 = p1 then (72, [some (vR 111), some (vI p1), some (vI p2)], [], σ4) else (76, [some (vR 111), some (vI p1), some (vI p2)], [], σ4))) rfl ?_
          refine run_ite hf (fun _ hf => ?_) (fun _ hf => ?_)
          · refine run_seg (k := 2) (s' := (77, [some (vR 111), some (vI p1), some (vI p2)], [vI 1], σ4)) rfl ?_
            exact run_ret hf rfl
          · refine run_seg (k := 1) (s' := (77, [some (vR 111), some (vI p1), some (vI p2)], [vI 0], σ4)) rfl ?_
            exact run_ret hf rfl
/-- BentPennyModel.sideOf([III)I -/
def f_M_sideOf (p1 : Int) (p2 : Int) (σ : xSt) : Option (Int) :=
  if 0 ≤ w32 ((w32 ((w32 (4 + (w32 (8 * p1)))) + 2)) + p2) ∧ w32 ((w32 ((w32 (4 + (w32 (8 * p1)))) + 2)) + p2) < 924 then (
  some (σ 113 (w32 ((w32 ((w32 (4 + (w32 (8 * p1)))) + 2)) + p2)).toNat)) else none
theorem c_M_sideOf {p1 : Int} {p2 : Int} {σ : xSt} {r : Int} (hf : f_M_sideOf p1 p2 σ = some r) : Call (0 + 1) 236 [vR 113, vI p1, vI p2] σ ((tI σ) r).1 ((tI σ) r).2 := by
  unfold f_M_sideOf at hf
  refine call_of (own := 12) (rk := 1) (cd := kX12_sideOf) (ls := [some (vR 113), some (vI p1), some (vI p2)]) (rT := (tI σ)) rfl rfl rfl rfl rfl ?_
  refine run_seg (k := 10) (s' := (11, [some (vR 113), some (vI p1), some (vI p2)], [vI (w32 ((w32 ((w32 (4 + (w32 (8 * p1)))) + 2)) + p2)), vR 113], σ)) rfl ?_
  refine run_guard (s' := (12, [some (vR 113), some (vI p1), some (vI p2)], [vI (σ 113 (w32 ((w32 ((w32 (4 + (w32 (8 * p1)))) + 2)) + p2)).toNat)], σ)) hf rfl (fun hf => ?_)
  exact run_ret hf rfl
/-- BentPennyModel.side(II)I -/
def f_M_side (p1 : Int) (p2 : Int) (σ : xSt) : Option (Int × xSt) :=
  xlet (upS σ 111 0 0) fun σ1 =>
  xbR (f_M_lay σ1) fun σ2 =>
  xbR (f_M_isThing p1 σ2) fun r3 =>
  if r3 = 0 then (some ((-1), σ2))
  else (if p2 < 0 then (some ((-1), σ2))
  else (xbR (f_M_sidesOf p1 σ2) fun r4 =>
  if p2 < r4 then (xbR (f_M_sideOf p1 p2 σ2) fun r5 =>
  some (r5, σ2))
  else (some ((-1), σ2))))
theorem c_M_side {p1 : Int} {p2 : Int} {σ : xSt} {r : Int × xSt} (hf : f_M_side p1 p2 σ = some r) : Call (2 + 1) 250 [vR 111, vI p1, vI p2] σ (tIW r).1 (tIW r).2 := by
  unfold f_M_side at hf
  refine call_of (own := 12) (rk := 1) (cd := kX12_side) (ls := [some (vR 111), some (vI p1), some (vI p2)]) (rT := tIW) rfl rfl rfl rfl rfl ?_
  refine run_seg (k := 3) (s' := (5, [some (vR 111), some (vI p1), some (vI p2)], [], upS σ 111 0 0)) rfl ?_
  refine run_let (fun σ1 => (5, [some (vR 111), some (vI p1), some (vI p2)], [], σ1)) hf (fun σ1 hf => ?_)
  refine run_seg (k := 1) (s' := (6, [some (vR 111), some (vI p1), some (vI p2)], [vR 111], σ1)) rfl ?_
  refine run_callV (m := 233) (as := [vR 111]) (pc := 9) (ls := [some (vR 111), some (vI p1), some (vI p2)]) (st' := []) (σ := σ1) hf rfl (fun _ h => (c_M_lay h).mono (by decide)) (fun σ2 hf => ?_)
  refine run_seg (k := 2) (s' := (11, [some (vR 111), some (vI p1), some (vI p2)], [vI p1, vR 111], σ2)) rfl ?_
  refine run_callN (w := fun a => some (vI a)) (m := 247) (as := [vR 111, vI p1]) (pc := 14) (ls := [some (vR 111), some (vI p1), some (vI p2)]) (st' := []) (σ := σ2) hf rfl (fun _ h => (c_M_isThing h).mono (by decide)) (fun r3 hf => ?_)
  refine run_seg (k := 1) (s' := (if r3 = 0 then (45, [some (vR 111), some (vI p1), some (vI p2)], [], σ2) else (17, [some (vR 111), some (vI p1), some (vI p2)], [], σ2))) rfl ?_
  refine run_ite hf (fun _ hf => ?_) (fun _ hf => ?_)
  · refine run_seg (k := 1) (s' := (46, [some (vR 111), some (vI p1), some (vI p2)], [vI (-1)], σ2)) rfl ?_
    exact run_ret hf rfl
  · refine run_seg (k := 2) (s' := (if p2 < 0 then (45, [some (vR 111), some (vI p1), some (vI p2)], [], σ2) else (21, [some (vR 111), some (vI p1), some (vI p2)], [], σ2))) rfl ?_
    refine run_ite hf (fun _ hf => ?_) (fun _ hf => ?_)
    · refine run_seg (k := 1) (s' := (46, [some (vR 111), some (vI p1), some (vI p2)], [vI (-1)], σ2)) rfl ?_
      exact run_ret hf rfl
    · refine run_seg (k := 4) (s' := (27, [some (vR 111), some (vI p1), some (vI p2)], [vI p1, vR 113, vI p2], σ2)) rfl ?_
      refine run_callN (w := fun a => some (vI a)) (m := 234) (as := [vR 113, vI p1]) (pc := 30) (ls := [some (vR 111), some (vI p1), some (vI p2)]) (st' := [vI p2]) (σ := σ2) hf rfl (fun _ h => (c_M_sidesOf h).mono (by decide)) (fun r4 hf => ?_)
      refine run_seg (k := 1) (s' := (if p2 < r4 then (33, [some (vR 111), some (vI p1), some (vI p2)], [], σ2) else (45, [some (vR 111), some (vI p1), some (vI p2)], [], σ2))) rfl ?_
      refine run_ite hf (fun _ hf => ?_) (fun _ hf => ?_)
      · refine run_seg (k := 4) (s' := (39, [some (vR 111), some (vI p1), some (vI p2)], [vI p2, vI p1, vR 113], σ2)) rfl ?_
        refine run_callN (w := fun a => some (vI a)) (m := 236) (as := [vR 113, vI p1, vI p2]) (pc := 42) (ls := [some (vR 111), some (vI p1), some (vI p2)]) (st' := []) (σ := σ2) hf rfl (fun _ h => (c_M_sideOf h).mono (by decide)) (fun r5 hf => ?_)
        refine run_seg (k := 1) (s' := (46, [some (vR 111), some (vI p1), some (vI p2)], [vI r5], σ2)) rfl ?_
        exact run_ret hf rfl
      · refine run_seg (k := 1) (s' := (46, [some (vR 111), some (vI p1), some (vI p2)], [vI (-1)], σ2)) rfl ?_
        exact run_ret hf rfl
/-- BentPennyModel.share(II)I -/
def f_M_share (p1 : Int) (p2 : Int) (σ : xSt) : Option (Int × xSt) :=
  xlet (upS σ 111 0 0) fun σ1 =>
  xbR (f_M_lay σ1) fun σ2 =>
  xbR (f_M_isEnd p1 σ2) fun r3 =>
  if r3 = 0 then (some ((-1), σ2))
  else (xbR (f_M_isIn p2 0 1 σ2) fun r4 =>
  if r4 = 0 then (some ((-1), σ2))
  else (if 0 ≤ w32 ((w32 (28 + (w32 (2 * p1)))) + 1) ∧ w32 ((w32 (28 + (w32 (2 * p1)))) + 1) < 924 then (
  if 0 < σ2 113 (w32 ((w32 (28 + (w32 (2 * p1)))) + 1)).toNat then (if 0 ≤ w32 ((w32 (28 + (w32 (2 * p1)))) + p2) ∧ w32 ((w32 (28 + (w32 (2 * p1)))) + p2) < 924 then (
  some (σ2 113 (w32 ((w32 (28 + (w32 (2 * p1)))) + p2)).toNat, σ2)) else none)
  else (some ((-1), σ2))) else none))
theorem c_M_share {p1 : Int} {p2 : Int} {σ : xSt} {r : Int × xSt} (hf : f_M_share p1 p2 σ = some r) : Call (2 + 1) 251 [vR 111, vI p1, vI p2] σ (tIW r).1 (tIW r).2 := by
  unfold f_M_share at hf
  refine call_of (own := 12) (rk := 1) (cd := kX12_share) (ls := [some (vR 111), some (vI p1), some (vI p2)]) (rT := tIW) rfl rfl rfl rfl rfl ?_
  refine run_seg (k := 3) (s' := (5, [some (vR 111), some (vI p1), some (vI p2)], [], upS σ 111 0 0)) rfl ?_
  refine run_let (fun σ1 => (5, [some (vR 111), some (vI p1), some (vI p2)], [], σ1)) hf (fun σ1 hf => ?_)
  refine run_seg (k := 1) (s' := (6, [some (vR 111), some (vI p1), some (vI p2)], [vR 111], σ1)) rfl ?_
  refine run_callV (m := 233) (as := [vR 111]) (pc := 9) (ls := [some (vR 111), some (vI p1), some (vI p2)]) (st' := []) (σ := σ1) hf rfl (fun _ h => (c_M_lay h).mono (by decide)) (fun σ2 hf => ?_)
  refine run_seg (k := 2) (s' := (11, [some (vR 111), some (vI p1), some (vI p2)], [vI p1, vR 111], σ2)) rfl ?_
  refine run_callN (w := fun a => some (vI a)) (m := 248) (as := [vR 111, vI p1]) (pc := 14) (ls := [some (vR 111), some (vI p1), some (vI p2)]) (st' := []) (σ := σ2) hf rfl (fun _ h => (c_M_isEnd h).mono (by decide)) (fun r3 hf => ?_)
  refine run_seg (k := 1) (s' := (if r3 = 0 then (58, [some (vR 111), some (vI p1), some (vI p2)], [], σ2) else (17, [some (vR 111), some (vI p1), some (vI p2)], [], σ2))) rfl ?_
  refine run_ite hf (fun _ hf => ?_) (fun _ hf => ?_)
  · refine run_seg (k := 1) (s' := (59, [some (vR 111), some (vI p1), some (vI p2)], [vI (-1)], σ2)) rfl ?_
    exact run_ret hf rfl
  · refine run_seg (k := 3) (s' := (20, [some (vR 111), some (vI p1), some (vI p2)], [vI 1, vI 0, vI p2], σ2)) rfl ?_
    refine run_callN (w := fun a => some (vI a)) (m := 216) (as := [vI p2, vI 0, vI 1]) (pc := 23) (ls := [some (vR 111), some (vI p1), some (vI p2)]) (st' := []) (σ := σ2) hf rfl (fun _ h => (c_M_isIn h).mono (by decide)) (fun r4 hf => ?_)
    refine run_seg (k := 1) (s' := (if r4 = 0 then (58, [some (vR 111), some (vI p1), some (vI p2)], [], σ2) else (26, [some (vR 111), some (vI p1), some (vI p2)], [], σ2))) rfl ?_
    refine run_ite hf (fun _ hf => ?_) (fun _ hf => ?_)
    · refine run_seg (k := 1) (s' := (59, [some (vR 111), some (vI p1), some (vI p2)], [vI (-1)], σ2)) rfl ?_
      exact run_ret hf rfl
    · refine run_seg (k := 9) (s' := (38, [some (vR 111), some (vI p1), some (vI p2)], [vI (w32 ((w32 (28 + (w32 (2 * p1)))) + 1)), vR 113], σ2)) rfl ?_
      refine run_guard (s' := (39, [some (vR 111), some (vI p1), some (vI p2)], [vI (σ2 113 (w32 ((w32 (28 + (w32 (2 * p1)))) + 1)).toNat)], σ2)) hf rfl (fun hf => ?_)
      refine run_seg (k := 1) (s' := (if 0 < σ2 113 (w32 ((w32 (28 + (w32 (2 * p1)))) + 1)).toNat then (42, [some (vR 111), some (vI p1), some (vI p2)], [], σ2) else (58, [some (vR 111), some (vI p1), some (vI p2)], [], σ2))) rfl ?_
      refine run_ite hf (fun _ hf => ?_) (fun _ hf => ?_)
      · refine run_seg (k := 9) (s' := (54, [some (vR 111), some (vI p1), some (vI p2)], [vI (w32 ((w32 (28 + (w32 (2 * p1)))) + p2)), vR 113], σ2)) rfl ?_
        refine run_guard (s' := (55, [some (vR 111), some (vI p1), some (vI p2)], [vI (σ2 113 (w32 ((w32 (28 + (w32 (2 * p1)))) + p2)).toNat)], σ2)) hf rfl (fun hf => ?_)
        refine run_seg (k := 1) (s' := (59, [some (vR 111), some (vI p1), some (vI p2)], [vI (σ2 113 (w32 ((w32 (28 + (w32 (2 * p1)))) + p2)).toNat)], σ2)) rfl ?_
        exact run_ret hf rfl
      · refine run_seg (k := 1) (s' := (59, [some (vR 111), some (vI p1), some (vI p2)], [vI (-1)], σ2)) rfl ?_
        exact run_ret hf rfl
def f_M_lays_27 : Nat → Int → Int → xSt → Option (Int × xSt)
  | 0, _, _, _ => none
  | n + 1, l3, l4, σ =>
    if l4 < 6 then (if 0 ≤ w32 ((w32 (l3 + 2)) + l4) ∧ w32 ((w32 (l3 + 2)) + l4) < 640 then (
    xlet (upS σ 115 (w32 ((w32 (l3 + 2)) + l4)).toNat (-1)) fun σ4 =>
    xlet (w32 (l4 + 1)) fun x5 =>
    f_M_lays_27 n l3 x5 σ4) else none)
    else (xlet (upS σ 111 25 (w32 ((σ 111 25) + 1))) fun σ6 =>
    some (w32 ((σ6 111 25) - 1), σ6))
/-- BentPennyModel.lays(II)I -/
def f_M_lays (p1 : Int) (p2 : Int) (σ : xSt) : Option (Int × xSt) :=
  xlet (w32 (8 * (σ 111 25))) fun x1 =>
  if 0 ≤ x1 ∧ x1 < 640 then (
  xlet (upS σ 115 x1.toNat p1) fun σ2 =>
  if 0 ≤ w32 (x1 + 1) ∧ w32 (x1 + 1) < 640 then (
  xlet (upS σ2 115 (w32 (x1 + 1)).toNat p2) fun σ3 =>
  f_M_lays_27 1000000 x1 0 σ3) else none) else none
theorem r_M_lays_27 : ∀ (n : Nat) {l3 : Int} {l4 : Int} {g1 : Option xV} {g2 : Option xV} {σ : xSt} {r : Int × xSt}, f_M_lays_27 n l3 l4 σ = some r → Run 0 12 1 kX12_lays (27, [some (vR 111), g1, g2, some (vI l3), some (vI l4)], [], σ) (tIW r) := by
  intro n
  induction n with
  | zero =>
    intro _ _ _ _ _ _ h
    exact nomatch (show (none : Option (Int × xSt)) = some _ from h)
  | succ n ih =>
    intro l3 l4 g1 g2 σ r hf
    unfold f_M_lays_27 at hf
    refine run_seg (k := 3) (s' := (if l4 < 6 then (34, [some (vR 111), g1, g2, some (vI l3), some (vI l4)], [], σ) else (52, [some (vR 111), g1, g2, some (vI l3), some (vI l4)], [], σ))) rfl ?_
    refine run_ite hf (fun _ hf => ?_) (fun _ hf => ?_)
    · refine run_seg (k := 8) (s' := (45, [some (vR 111), g1, g2, some (vI l3), some (vI l4)], [vI (-1), vI (w32 ((w32 (l3 + 2)) + l4)), vR 115], σ)) rfl ?_
      refine run_guard (s' := (46, [some (vR 111), g1, g2, some (vI l3), some (vI l4)], [], upS σ 115 (w32 ((w32 (l3 + 2)) + l4)).toNat (-1))) hf rfl (fun hf => ?_)
      refine run_let (fun σ4 => (46, [some (vR 111), g1, g2, some (vI l3), some (vI l4)], [], σ4)) hf (fun σ4 hf => ?_)
      refine run_seg (k := 1) (s' := (49, [some (vR 111), g1, g2, some (vI l3), some (vI (w32 (l4 + 1)))], [], σ4)) rfl ?_
      refine run_let (fun x5 => (49, [some (vR 111), g1, g2, some (vI l3), some (vI x5)], [], σ4)) hf (fun x5 hf => ?_)
      refine run_seg (k := 1) (s' := (27, [some (vR 111), g1, g2, some (vI l3), some (vI x5)], [], σ4)) rfl ?_
      exact ih hf
    · refine run_seg (k := 6) (s' := (62, [some (vR 111), g1, g2, some (vI l3), some (vI l4)], [], upS σ 111 25 (w32 ((σ 111 25) + 1)))) rfl ?_
      refine run_let (fun σ6 => (62, [some (vR 111), g1, g2, some (vI l3), some (vI l4)], [], σ6)) hf (fun σ6 hf => ?_)
      refine run_seg (k := 4) (s' := (68, [some (vR 111), g1, g2, some (vI l3), some (vI l4)], [vI (w32 ((σ6 111 25) - 1))], σ6)) rfl ?_
      exact run_ret hf rfl
theorem c_M_lays {p1 : Int} {p2 : Int} {σ : xSt} {r : Int × xSt} (hf : f_M_lays p1 p2 σ = some r) : Call (0 + 1) 252 [vR 111, vI p1, vI p2] σ (tIW r).1 (tIW r).2 := by
  unfold f_M_lays at hf
  refine call_of (own := 12) (rk := 1) (cd := kX12_lays) (ls := [some (vR 111), some (vI p1), some (vI p2), none, none]) (rT := tIW) rfl rfl rfl rfl rfl ?_
  refine run_seg (k := 5) (s' := (8, [some (vR 111), some (vI p1), some (vI p2), some (vI (w32 (8 * (σ 111 25)))), none], [], σ)) rfl ?_
  refine run_let (fun x1 => (8, [some (vR 111), some (vI p1), some (vI p2), some (vI x1), none], [], σ)) hf (fun x1 hf => ?_)
  refine run_seg (k := 4) (s' := (14, [some (vR 111), some (vI p1), some (vI p2), some (vI x1), none], [vI p1, vI x1, vR 115], σ)) rfl ?_
  refine run_guard (s' := (15, [some (vR 111), some (vI p1), some (vI p2), some (vI x1), none], [], upS σ 115 x1.toNat p1)) hf rfl (fun hf => ?_)
  refine run_let (fun σ2 => (15, [some (vR 111), some (vI p1), some (vI p2), some (vI x1), none], [], σ2)) hf (fun σ2 hf => ?_)
  refine run_seg (k := 6) (s' := (23, [some (vR 111), some (vI p1), some (vI p2), some (vI x1), none], [vI p2, vI (w32 (x1 + 1)), vR 115], σ2)) rfl ?_
  refine run_guard (s' := (24, [some (vR 111), some (vI p1), some (vI p2), some (vI x1), none], [], upS σ2 115 (w32 (x1 + 1)).toNat p2)) hf rfl (fun hf => ?_)
  refine run_let (fun σ3 => (24, [some (vR 111), some (vI p1), some (vI p2), some (vI x1), none], [], σ3)) hf (fun σ3 hf => ?_)
  refine run_seg (k := 2) (s' := (27, [some (vR 111), some (vI p1), some (vI p2), some (vI x1), some (vI 0)], [], σ3)) rfl ?_
  exact r_M_lays_27 1000000 hf
def f_M_readNode_122 (q_M_readNode : (Int → xSt → Option (Int × xSt))) (q_M_readSides : (Int → Int → Int → xSt → Option (Int × xSt))) (σ : xSt) : Option (Int × xSt) :=
  xbW (f_M_bad 4 σ) fun r17 σ18 =>
  some (xnb r17, σ18)
def f_M_readNode_150 (q_M_readNode : (Int → xSt → Option (Int × xSt))) (q_M_readSides : (Int → Int → Int → xSt → Option (Int × xSt))) (l1 : Int) (l3 : Int) (s0 : Int) (s1 : Int) (σ : xSt) : Option (Int × xSt) :=
  xbW (f_M_lays s1 s0 σ) fun r19 σ20 =>
  xlet (upS σ20 111 26 r19) fun σ21 =>
  xbR (f_M_go σ21) fun σ22 =>
  if l3 = (-1) then (some (1, σ22))
  else (xbR (f_M_sidesOf l3 σ22) fun r23 =>
  xbW (q_M_readSides (σ22 111 26) r23 (w32 (l1 + 1)) σ22) fun r24 σ25 =>
  if r24 = 0 then (some (0, σ25))
  else (some (1, σ25)))
def f_M_readNode_140 (q_M_readNode : (Int → xSt → Option (Int × xSt))) (q_M_readSides : (Int → Int → Int → xSt → Option (Int × xSt))) (l1 : Int) (l2 : Int) (l3 : Int) (s0 : Int) (σ : xSt) : Option (Int × xSt) :=
  if l3 = (-1) then (f_M_readNode_150 q_M_readNode q_M_readSides l1 l3 l2 s0 σ)
  else (f_M_readNode_150 q_M_readNode q_M_readSides l1 l3 l3 s0 σ)
def f_M_readNode_128 (q_M_readNode : (Int → xSt → Option (Int × xSt))) (q_M_readSides : (Int → Int → Int → xSt → Option (Int × xSt))) (l1 : Int) (l2 : Int) (l3 : Int) (σ : xSt) : Option (Int × xSt) :=
  if l3 = (-1) then (f_M_readNode_140 q_M_readNode q_M_readSides l1 l2 l3 0 σ)
  else (f_M_readNode_140 q_M_readNode q_M_readSides l1 l2 l3 2 σ)
def f_M_readNode_102 (q_M_readNode : (Int → xSt → Option (Int × xSt))) (q_M_readSides : (Int → Int → Int → xSt → Option (Int × xSt))) (l1 : Int) (l2 : Int) (l3 : Int) (σ : xSt) : Option (Int × xSt) :=
  if σ 111 25 = 80 then (f_M_readNode_122 q_M_readNode q_M_readSides σ)
  else (if l3 = (-1) then (f_M_readNode_128 q_M_readNode q_M_readSides l1 l2 l3 σ)
  else (if l1 = 6 then (f_M_readNode_122 q_M_readNode q_M_readSides σ)
  else (f_M_readNode_128 q_M_readNode q_M_readSides l1 l2 l3 σ)))
/-- BentPennyModel.readNode(I)Z -/
def f0_M_readNode (q_M_readNode : (Int → xSt → Option (Int × xSt))) (q_M_readSides : (Int → Int → Int → xSt → Option (Int × xSt))) (p1 : Int) (σ : xSt) : Option (Int × xSt) :=
  xbR (f_M_isWord 4 σ) fun r1 =>
  if r1 = 0 then (xbR (f_M_isName σ) fun r2 =>
  if r2 = 0 then (xbW (f_M_bad 1 σ) fun r3 σ4 =>
  some (xnb r3, σ4))
  else (xbR (f_M_ends σ) fun r5 =>
  xbR (f_M_findIn 117 3 r5 (σ 111 12) σ) fun r6 =>
  xbR (f_M_things σ) fun r7 =>
  xbR (f_M_findIn 117 0 r7 (σ 111 12) σ) fun r8 =>
  if r6 = (-1) then (if r8 = (-1) then (xbW (f_M_bad 3 σ) fun r9 σ10 =>
  some (xnb r9, σ10))
  else (f_M_readNode_102 q_M_readNode q_M_readSides p1 r6 r8 σ))
  else (f_M_readNode_102 q_M_readNode q_M_readSides p1 r6 r8 σ)))
  else (if σ 111 25 = 80 then (xbW (f_M_bad 4 σ) fun r11 σ12 =>
  some (xnb r11, σ12))
  else (xbW (f_M_lays 1 (-1) σ) fun r13 σ14 =>
  xlet (upS σ14 111 26 r13) fun σ15 =>
  xbR (f_M_go σ15) fun σ16 =>
  some (1, σ16)))
theorem r_M_readNode_122 {d : Nat} (hd : 3 ≤ d) {q_M_readNode : (Int → xSt → Option (Int × xSt))} (hq_M_readNode : ∀ {p1 : Int} {σ : xSt} {r : Int × xSt}, q_M_readNode p1 σ = some r → Call d 253 [vR 111, vI p1] σ (tIW r).1 (tIW r).2) {q_M_readSides : (Int → Int → Int → xSt → Option (Int × xSt))} (hq_M_readSides : ∀ {p1 : Int} {p2 : Int} {p3 : Int} {σ : xSt} {r : Int × xSt}, q_M_readSides p1 p2 p3 σ = some r → Call d 254 [vR 111, vI p1, vI p2, vI p3] σ (tIW r).1 (tIW r).2) {g1 : Option xV} {g2 : Option xV} {g3 : Option xV} {σ : xSt} {r : Int × xSt} (hf : f_M_readNode_122 q_M_readNode q_M_readSides σ = some r) : Run d 12 2 kX12_readNode (122, [some (vR 111), g1, g2, g3], [], σ) (tIW r) := by
  unfold f_M_readNode_122 at hf
  refine run_seg (k := 2) (s' := (124, [some (vR 111), g1, g2, g3], [vI 4, vR 111], σ)) rfl ?_
  refine run_callW (w := fun a => some (vI a)) (m := 229) (as := [vR 111, vI 4]) (pc := 127) (ls := [some (vR 111), g1, g2, g3]) (st' := []) (σ := σ) hf rfl (fun _ _ h => (c_M_bad h).mono (Nat.le_trans (by decide) hd)) (fun r17 σ18 hf => ?_)
  exact run_ret hf rfl
theorem r_M_readNode_150 {d : Nat} (hd : 3 ≤ d) {q_M_readNode : (Int → xSt → Option (Int × xSt))} (hq_M_readNode : ∀ {p1 : Int} {σ : xSt} {r : Int × xSt}, q_M_readNode p1 σ = some r → Call d 253 [vR 111, vI p1] σ (tIW r).1 (tIW r).2) {q_M_readSides : (Int → Int → Int → xSt → Option (Int × xSt))} (hq_M_readSides : ∀ {p1 : Int} {p2 : Int} {p3 : Int} {σ : xSt} {r : Int × xSt}, q_M_readSides p1 p2 p3 σ = some r → Call d 254 [vR 111, vI p1, vI p2, vI p3] σ (tIW r).1 (tIW r).2) {l1 : Int} {l3 : Int} {s0 : Int} {s1 : Int} {g2 : Option xV} {σ : xSt} {r : Int × xSt} (hf : f_M_readNode_150 q_M_readNode q_M_readSides l1 l3 s0 s1 σ = some r) : Run d 12 2 kX12_readNode (150, [some (vR 111), some (vI l1), g2, some (vI l3)], [vI s0, vI s1, vR 111, vR 111], σ) (tIW r) := by
  unfold f_M_readNode_150 at hf
  refine run_callW (w := fun a => some (vI a)) (m := 252) (as := [vR 111, vI s1, vI s0]) (pc := 153) (ls := [some (vR 111), some (vI l1), g2, some (vI l3)]) (st' := [vR 111]) (σ := σ) hf rfl (fun _ _ h => (c_M_lays h).mono (Nat.le_trans (by decide) hd)) (fun r19 σ20 hf => ?_)
  refine run_seg (k := 1) (s' := (156, [some (vR 111), some (vI l1), g2, some (vI l3)], [], upS σ20 111 26 r19)) rfl ?_
  refine run_let (fun σ21 => (156, [some (vR 111), some (vI l1), g2, some (vI l3)], [], σ21)) hf (fun σ21 hf => ?_)
  refine run_seg (k := 1) (s' := (157, [some (vR 111), some (vI l1), g2, some (vI l3)], [vR 111], σ21)) rfl ?_
  refine run_callV (m := 223) (as := [vR 111]) (pc := 160) (ls := [some (vR 111), some (vI l1), g2, some (vI l3)]) (st' := []) (σ := σ21) hf rfl (fun _ h => (c_M_go h).mono (Nat.le_trans (by decide) hd)) (fun σ22 hf => ?_)
  refine run_seg (k := 3) (s' := (if l3 = (-1) then (187, [some (vR 111), some (vI l1), g2, some (vI l3)], [], σ22) else (165, [some (vR 111), some (vI l1), g2, some (vI l3)], [], σ22))) rfl ?_
  refine run_ite hf (fun _ hf => ?_) (fun _ hf => ?_)
  · refine run_seg (k := 2) (s' := (192, [some (vR 111), some (vI l1), g2, some (vI l3)], [vI 1], σ22)) rfl ?_
    exact run_ret hf rfl
  · refine run_seg (k := 6) (s' := (175, [some (vR 111), some (vI l1), g2, some (vI l3)], [vI l3, vR 113, vI (σ22 111 26), vR 111], σ22)) rfl ?_
    refine run_callN (w := fun a => some (vI a)) (m := 234) (as := [vR 113, vI l3]) (pc := 178) (ls := [some (vR 111), some (vI l1), g2, some (vI l3)]) (st' := [vI (σ22 111 26), vR 111]) (σ := σ22) hf rfl (fun _ h => (c_M_sidesOf h).mono (Nat.le_trans (by decide) hd)) (fun r23 hf => ?_)
    refine run_seg (k := 3) (s' := (181, [some (vR 111), some (vI l1), g2, some (vI l3)], [vI (w32 (l1 + 1)), vI r23, vI (σ22 111 26), vR 111], σ22)) rfl ?_
    refine run_callW (w := fun a => some (vI a)) (m := 254) (as := [vR 111, vI (σ22 111 26), vI r23, vI (w32 (l1 + 1))]) (pc := 184) (ls := [some (vR 111), some (vI l1), g2, some (vI l3)]) (st' := []) (σ := σ22) hf rfl (fun _ _ h => (hq_M_readSides h)) (fun r24 σ25 hf => ?_)
    refine run_seg (k := 1) (s' := (if r24 = 0 then (191, [some (vR 111), some (vI l1), g2, some (vI l3)], [], σ25) else (187, [some (vR 111), some (vI l1), g2, some (vI l3)], [], σ25))) rfl ?_
    refine run_ite hf (fun _ hf => ?_) (fun _ hf => ?_)
    · refine run_seg (k := 1) (s' := (192, [some (vR 111), some (vI l1), g2, some (vI l3)], [vI 0], σ25)) rfl ?_
      exact run_ret hf rfl
    · refine run_seg (k := 2) (s' := (192, [some (vR 111), some (vI l1), g2, some (vI l3)], [vI 1], σ25)) rfl ?_
      exact run_ret hf rfl
theorem r_M_readNode_140 {d : Nat} (hd : 3 ≤ d) {q_M_readNode : (Int → xSt → Option (Int × xSt))} (hq_M_readNode : ∀ {p1 : Int} {σ : xSt} {r : Int × xSt}, q_M_readNode p1 σ = some r → Call d 253 [vR 111, vI p1] σ (tIW r).1 (tIW r).2) {q_M_readSides : (Int → Int → Int → xSt → Option (Int × xSt))} (hq_M_readSides : ∀ {p1 : Int} {p2 : Int} {p3 : Int} {σ : xSt} {r : Int × xSt}, q_M_readSides p1 p2 p3 σ = some r → Call d 254 [vR 111, vI p1, vI p2, vI p3] σ (tIW r).1 (tIW r).2) {l1 : Int} {l2 : Int} {l3 : Int} {s0 : Int} {σ : xSt} {r : Int × xSt} (hf : f_M_readNode_140 q_M_readNode q_M_readSides l1 l2 l3 s0 σ = some r) : Run d 12 2 kX12_readNode (140, [some (vR 111), some (vI l1), some (vI l2), some (vI l3)], [vI s0, vR 111, vR 111], σ) (tIW r) := by
  unfold f_M_readNode_140 at hf
  refine run_seg (k := 3) (s' := (if l3 = (-1) then (145, [some (vR 111), some (vI l1), some (vI l2), some (vI l3)], [vI s0, vR 111, vR 111], σ) else (149, [some (vR 111), some (vI l1), some (vI l2), some (vI l3)], [vI s0, vR 111, vR 111], σ))) rfl ?_
  refine run_ite hf (fun _ hf => ?_) (fun _ hf => ?_)
  · refine run_seg (k := 2) (s' := (150, [some (vR 111), some (vI l1), some (vI l2), some (vI l3)], [vI l2, vI s0, vR 111, vR 111], σ)) rfl ?_
    exact r_M_readNode_150 hd hq_M_readNode hq_M_readSides hf
  · refine run_seg (k := 1) (s' := (150, [some (vR 111), some (vI l1), some (vI l2), some (vI l3)], [vI l3, vI s0, vR 111, vR 111], σ)) rfl ?_
    exact r_M_readNode_150 hd hq_M_readNode hq_M_readSides hf
theorem r_M_readNode_128 {d : Nat} (hd : 3 ≤ d) {q_M_readNode : (Int → xSt → Option (Int × xSt))} (hq_M_readNode : ∀ {p1 : Int} {σ : xSt} {r : Int × xSt}, q_M_readNode p1 σ = some r → Call d 253 [vR 111, vI p1] σ (tIW r).1 (tIW r).2) {q_M_readSides : (Int → Int → Int → xSt → Option (Int × xSt))} (hq_M_readSides : ∀ {p1 : Int} {p2 : Int} {p3 : Int} {σ : xSt} {r : Int × xSt}, q_M_readSides p1 p2 p3 σ = some r → Call d 254 [vR 111, vI p1, vI p2, vI p3] σ (tIW r).1 (tIW r).2) {l1 : Int} {l2 : Int} {l3 : Int} {σ : xSt} {r : Int × xSt} (hf : f_M_readNode_128 q_M_readNode q_M_readSides l1 l2 l3 σ = some r) : Run d 12 2 kX12_readNode (128, [some (vR 111), some (vI l1), some (vI l2), some (vI l3)], [], σ) (tIW r) := by
  unfold f_M_readNode_128 at hf
  refine run_seg (k := 5) (s' := (if l3 = (-1) then (135, [some (vR 111), some (vI l1), some (vI l2), some (vI l3)], [vR 111, vR 111], σ) else (139, [some (vR 111), some (vI l1), some (vI l2), some (vI l3)], [vR 111, vR 111], σ))) rfl ?_
  refine run_ite hf (fun _ hf => ?_) (fun _ hf => ?_)
  · refine run_seg (k := 2) (s' := (140, [some (vR 111), some (vI l1), some (vI l2), some (vI l3)], [vI 0, vR 111, vR 111], σ)) rfl ?_
    exact r_M_readNode_140 hd hq_M_readNode hq_M_readSides hf
  · refine run_seg (k := 1) (s' := (140, [some (vR 111), some (vI l1), some (vI l2), some (vI l3)], [vI 2, vR 111, vR 111], σ)) rfl ?_
    exact r_M_readNode_140 hd hq_M_readNode hq_M_readSides hf
theorem r_M_readNode_102 {d : Nat} (hd : 3 ≤ d) {q_M_readNode : (Int → xSt → Option (Int × xSt))} (hq_M_readNode : ∀ {p1 : Int} {σ : xSt} {r : Int × xSt}, q_M_readNode p1 σ = some r → Call d 253 [vR 111, vI p1] σ (tIW r).1 (tIW r).2) {q_M_readSides : (Int → Int → Int → xSt → Option (Int × xSt))} (hq_M_readSides : ∀ {p1 : Int} {p2 : Int} {p3 : Int} {σ : xSt} {r : Int × xSt}, q_M_readSides p1 p2 p3 σ = some r → Call d 254 [vR 111, vI p1, vI p2, vI p3] σ (tIW r).1 (tIW r).2) {l1 : Int} {l2 : Int} {l3 : Int} {σ : xSt} {r : Int × xSt} (hf : f_M_readNode_102 q_M_readNode q_M_readSides l1 l2 l3 σ = some r) : Run d 12 2 kX12_readNode (102, [some (vR 111), some (vI l1), some (vI l2), some (vI l3)], [], σ) (tIW r) := by
  unfold f_M_readNode_102 at hf
  refine run_seg (k := 4) (s' := (if σ 111 25 = 80 then (122, [some (vR 111), some (vI l1), some (vI l2), some (vI l3)], [], σ) else (111, [some (vR 111), some (vI l1), some (vI l2), some (vI l3)], [], σ))) rfl ?_
  refine run_ite hf (fun _ hf => ?_) (fun _ hf => ?_)
  · exact r_M_readNode_122 hd hq_M_readNode hq_M_readSides hf
  · refine run_seg (k := 3) (s' := (if l3 = (-1) then (128, [some (vR 111), some (vI l1), some (vI l2), some (vI l3)], [], σ) else (116, [some (vR 111), some (vI l1), some (vI l2), some (vI l3)], [], σ))) rfl ?_
    refine run_ite hf (fun _ hf => ?_) (fun _ hf => ?_)
    · exact r_M_readNode_128 hd hq_M_readNode hq_M_readSides hf
    · refine run_seg (k := 3) (s' := (if l1 = 6 then (122, [some (vR 111), some (vI l1), some (vI l2), some (vI l3)], [], σ) else (128, [some (vR 111), some (vI l1), some (vI l2), some (vI l3)], [], σ))) rfl ?_
      refine run_ite hf (fun _ hf => ?_) (fun _ hf => ?_)
      · exact r_M_readNode_122 hd hq_M_readNode hq_M_readSides hf
      · exact r_M_readNode_128 hd hq_M_readNode hq_M_readSides hf
theorem c0_M_readNode {d : Nat} (hd : 3 ≤ d) {q_M_readNode : (Int → xSt → Option (Int × xSt))} (hq_M_readNode : ∀ {p1 : Int} {σ : xSt} {r : Int × xSt}, q_M_readNode p1 σ = some r → Call d 253 [vR 111, vI p1] σ (tIW r).1 (tIW r).2) {q_M_readSides : (Int → Int → Int → xSt → Option (Int × xSt))} (hq_M_readSides : ∀ {p1 : Int} {p2 : Int} {p3 : Int} {σ : xSt} {r : Int × xSt}, q_M_readSides p1 p2 p3 σ = some r → Call d 254 [vR 111, vI p1, vI p2, vI p3] σ (tIW r).1 (tIW r).2) {p1 : Int} {σ : xSt} {r : Int × xSt} (hf : f0_M_readNode q_M_readNode q_M_readSides p1 σ = some r) : Call (d + 1) 253 [vR 111, vI p1] σ (tIW r).1 (tIW r).2 := by
  unfold f0_M_readNode at hf
  refine call_of (own := 12) (rk := 2) (cd := kX12_readNode) (ls := [some (vR 111), some (vI p1), none, none]) (rT := tIW) rfl rfl rfl rfl rfl ?_
  refine run_seg (k := 2) (s' := (2, [some (vR 111), some (vI p1), none, none], [vI 4, vR 111], σ)) rfl ?_
  refine run_callN (w := fun a => some (vI a)) (m := 226) (as := [vR 111, vI 4]) (pc := 5) (ls := [some (vR 111), some (vI p1), none, none]) (st' := []) (σ := σ) hf rfl (fun _ h => (c_M_isWord h).mono (Nat.le_trans (by decide) hd)) (fun r1 hf => ?_)
  refine run_seg (k := 1) (s' := (if r1 = 0 then (39, [some (vR 111), some (vI p1), none, none], [], σ) else (8, [some (vR 111), some (vI p1), none, none], [], σ))) rfl ?_
  refine run_ite hf (fun _ hf => ?_) (fun _ hf => ?_)
  · refine run_seg (k := 1) (s' := (40, [some (vR 111), some (vI p1), none, none], [vR 111], σ)) rfl ?_
    refine run_callN (w := fun a => some (vI a)) (m := 228) (as := [vR 111]) (pc := 43) (ls := [some (vR 111), some (vI p1), none, none]) (st' := []) (σ := σ) hf rfl (fun _ h => (c_M_isName h).mono (Nat.le_trans (by decide) hd)) (fun r2 hf => ?_)
    refine run_seg (k := 1) (s' := (if r2 = 0 then (46, [some (vR 111), some (vI p1), none, none], [], σ) else (52, [some (vR 111), some (vI p1), none, none], [], σ))) rfl ?_
    refine run_ite hf (fun _ hf => ?_) (fun _ hf => ?_)
    · refine run_seg (k := 2) (s' := (48, [some (vR 111), some (vI p1), none, none], [vI 1, vR 111], σ)) rfl ?_
      refine run_callW (w := fun a => some (vI a)) (m := 229) (as := [vR 111, vI 1]) (pc := 51) (ls := [some (vR 111), some (vI p1), none, none]) (st' := []) (σ := σ) hf rfl (fun _ _ h => (c_M_bad h).mono (Nat.le_trans (by decide) hd)) (fun r3 σ4 hf => ?_)
      exact run_ret hf rfl
    · refine run_seg (k := 4) (s' := (58, [some (vR 111), some (vI p1), none, none], [vR 111, vI 3, vR 117], σ)) rfl ?_
      refine run_callN (w := fun a => some (vI a)) (m := 246) (as := [vR 111]) (pc := 61) (ls := [some (vR 111), some (vI p1), none, none]) (st' := [vI 3, vR 117]) (σ := σ) hf rfl (fun _ h => (c_M_ends h).mono (Nat.le_trans (by decide) hd)) (fun r5 hf => ?_)
      refine run_seg (k := 2) (s' := (65, [some (vR 111), some (vI p1), none, none], [vL (σ 111 12), vI r5, vI 3, vR 117], σ)) rfl ?_
      refine run_callN (w := fun a => some (vI a)) (m := 237) (as := [vR 117, vI 3, vI r5, vL (σ 111 12)]) (pc := 68) (ls := [some (vR 111), some (vI p1), none, none]) (st' := []) (σ := σ) hf rfl (fun _ h => (c_M_findIn_117 h).mono (Nat.le_trans (by decide) hd)) (fun r6 hf => ?_)
      refine run_seg (k := 5) (s' := (75, [some (vR 111), some (vI p1), some (vI r6), none], [vR 111, vI 0, vR 117], σ)) rfl ?_
      refine run_callN (w := fun a => some (vI a)) (m := 245) (as := [vR 111]) (pc := 78) (ls := [some (vR 111), some (vI p1), some (vI r6), none]) (st' := [vI 0, vR 117]) (σ := σ) hf rfl (fun _ h => (c_M_things h).mono (Nat.le_trans (by decide) hd)) (fun r7 hf => ?_)
      refine run_seg (k := 2) (s' := (82, [some (vR 111), some (vI p1), some (vI r6), none], [vL (σ 111 12), vI r7, vI 0, vR 117], σ)) rfl ?_
      refine run_callN (w := fun a => some (vI a)) (m := 237) (as := [vR 117, vI 0, vI r7, vL (σ 111 12)]) (pc := 85) (ls := [some (vR 111), some (vI p1), some (vI r6), none]) (st' := []) (σ := σ) hf rfl (fun _ h => (c_M_findIn_117 h).mono (Nat.le_trans (by decide) hd)) (fun r8 hf => ?_)
      refine run_seg (k := 4) (s' := (if r6 = (-1) then (91, [some (vR 111), some (vI p1), some (vI r6), some (vI r8)], [], σ) else (102, [some (vR 111), some (vI p1), some (vI r6), some (vI r8)], [], σ))) rfl ?_
      refine run_ite hf (fun _ hf => ?_) (fun _ hf => ?_)
      · refine run_seg (k := 3) (s' := (if r8 = (-1) then (96, [some (vR 111), some (vI p1), some (vI r6), some (vI r8)], [], σ) else (102, [some (vR 111), some (vI p1), some (vI r6), some (vI r8)], [], σ))) rfl ?_
        refine run_ite hf (fun _ hf => ?_) (fun _ hf => ?_)
        · refine run_seg (k := 2) (s' := (98, [some (vR 111), some (vI p1), some (vI r6), some (vI r8)], [vI 3, vR 111], σ)) rfl ?_
          refine run_callW (w := fun a => some (vI a)) (m := 229) (as := [vR 111, vI 3]) (pc := 101) (ls := [some (vR 111), some (vI p1), some (vI r6), some (vI r8)]) (st' := []) (σ := σ) hf rfl (fun _ _ h => (c_M_bad h).mono (Nat.le_trans (by decide) hd)) (fun r9 σ10 hf => ?_)
          exact run_ret hf rfl
        · exact r_M_readNode_102 hd hq_M_readNode hq_M_readSides hf
      · exact r_M_readNode_102 hd hq_M_readNode hq_M_readSides hf
  · refine run_seg (k := 4) (s' := (if σ 111 25 = 80 then (17, [some (vR 111), some (vI p1), none, none], [], σ) else (23, [some (vR 111), some (vI p1), none, none], [], σ))) rfl ?_
    refine run_ite hf (fun _ hf => ?_) (fun _ hf => ?_)
    · refine run_seg (k := 2) (s' := (19, [some (vR 111), some (vI p1), none, none], [vI 4, vR 111], σ)) rfl ?_
      refine run_callW (w := fun a => some (vI a)) (m := 229) (as := [vR 111, vI 4]) (pc := 22) (ls := [some (vR 111), some (vI p1), none, none]) (st' := []) (σ := σ) hf rfl (fun _ _ h => (c_M_bad h).mono (Nat.le_trans (by decide) hd)) (fun r11 σ12 hf => ?_)
      exact run_ret hf rfl
    · refine run_seg (k := 4) (s' := (27, [some (vR 111), some (vI p1), none, none], [vI (-1), vI 1, vR 111, vR 111], σ)) rfl ?_
      refine run_callW (w := fun a => some (vI a)) (m := 252) (as := [vR 111, vI 1, vI (-1)]) (pc := 30) (ls := [some (vR 111), some (vI p1), none, none]) (st' := [vR 111]) (σ := σ) hf rfl (fun _ _ h => (c_M_lays h).mono (Nat.le_trans (by decide) hd)) (fun r13 σ14 hf => ?_)
      refine run_seg (k := 1) (s' := (33, [some (vR 111), some (vI p1), none, none], [], upS σ14 111 26 r13)) rfl ?_
      refine run_let (fun σ15 => (33, [some (vR 111), some (vI p1), none, none], [], σ15)) hf (fun σ15 hf => ?_)
      refine run_seg (k := 1) (s' := (34, [some (vR 111), some (vI p1), none, none], [vR 111], σ15)) rfl ?_
      refine run_callV (m := 223) (as := [vR 111]) (pc := 37) (ls := [some (vR 111), some (vI p1), none, none]) (st' := []) (σ := σ15) hf rfl (fun _ h => (c_M_go h).mono (Nat.le_trans (by decide) hd)) (fun σ16 hf => ?_)
      refine run_seg (k := 1) (s' := (38, [some (vR 111), some (vI p1), none, none], [vI 1], σ16)) rfl ?_
      exact run_ret hf rfl
def f_M_readSides_87 (q_M_readNode : (Int → xSt → Option (Int × xSt))) (q_M_readSides : (Int → Int → Int → xSt → Option (Int × xSt))) (k14 : (Int → Int → Int → Int → xSt → Option (Int × xSt))) (l1 : Int) (l2 : Int) (l3 : Int) (l4 : Int) (l5 : Int) (σ : xSt) : Option (Int × xSt) :=
  xbR (f_M_isSign 58 σ) fun r11 =>
  if r11 = l5 then (xbW (f_M_bad 5 σ) fun r12 σ13 =>
  some (xnb r12, σ13))
  else (xbR (f_M_go σ) fun σ14 =>
  xlet (w32 (l4 + 1)) fun x15 =>
  k14 l1 l2 l3 x15 σ14)
def f_M_readSides_61 (q_M_readNode : (Int → xSt → Option (Int × xSt))) (q_M_readSides : (Int → Int → Int → xSt → Option (Int × xSt))) (k14 : (Int → Int → Int → Int → xSt → Option (Int × xSt))) (l1 : Int) (l2 : Int) (l3 : Int) (l4 : Int) (s0 : Int) (σ : xSt) : Option (Int × xSt) :=
  xbR (f_M_isSign 58 σ) fun r7 =>
  if r7 = 0 then (xbR (f_M_isSign 41 σ) fun r8 =>
  if r8 = 0 then (xbW (f_M_bad 1 σ) fun r9 σ10 =>
  some (xnb r9, σ10))
  else (f_M_readSides_87 q_M_readNode q_M_readSides (k14) l1 l2 l3 l4 s0 σ))
  else (f_M_readSides_87 q_M_readNode q_M_readSides (k14) l1 l2 l3 l4 s0 σ)
def f_M_readSides_14 (q_M_readNode : (Int → xSt → Option (Int × xSt))) (q_M_readSides : (Int → Int → Int → xSt → Option (Int × xSt))) : Nat → Int → Int → Int → Int → xSt → Option (Int × xSt)
  | 0, _, _, _, _, _ => none
  | n + 1, l1, l2, l3, l4, σ =>
    if l4 < l2 then (xbW (q_M_readNode l3 σ) fun r3 σ4 =>
    if r3 = 0 then (some (0, σ4))
    else (if 0 ≤ w32 ((w32 ((w32 (8 * l1)) + 2)) + l4) ∧ w32 ((w32 ((w32 (8 * l1)) + 2)) + l4) < 640 then (
    xlet (upS σ4 115 (w32 ((w32 ((w32 (8 * l1)) + 2)) + l4)).toNat (σ4 111 26)) fun σ5 =>
    if l4 = w32 (l2 - 1) then (f_M_readSides_61 q_M_readNode q_M_readSides (fun z0 z1 z2 z3 sz => f_M_readSides_14 q_M_readNode q_M_readSides n z0 z1 z2 z3 sz) l1 l2 l3 l4 1 σ5)
    else (f_M_readSides_61 q_M_readNode q_M_readSides (fun z0 z1 z2 z3 sz => f_M_readSides_14 q_M_readNode q_M_readSides n z0 z1 z2 z3 sz) l1 l2 l3 l4 0 σ5)) else none))
    else (xlet (upS σ 111 26 l1) fun σ6 =>
    some (1, σ6))
/-- BentPennyModel.readSides(III)Z -/
def f0_M_readSides (q_M_readNode : (Int → xSt → Option (Int × xSt))) (q_M_readSides : (Int → Int → Int → xSt → Option (Int × xSt))) (p1 : Int) (p2 : Int) (p3 : Int) (σ : xSt) : Option (Int × xSt) :=
  xbW (f_M_readSign 40 σ) fun r1 σ2 =>
  if r1 = 0 then (some (0, σ2))
  else (f_M_readSides_14 q_M_readNode q_M_readSides 1000000 p1 p2 p3 0 σ2)
theorem r_M_readSides_87 {d : Nat} (hd : 3 ≤ d) {q_M_readNode : (Int → xSt → Option (Int × xSt))} (hq_M_readNode : ∀ {p1 : Int} {σ : xSt} {r : Int × xSt}, q_M_readNode p1 σ = some r → Call d 253 [vR 111, vI p1] σ (tIW r).1 (tIW r).2) {q_M_readSides : (Int → Int → Int → xSt → Option (Int × xSt))} (hq_M_readSides : ∀ {p1 : Int} {p2 : Int} {p3 : Int} {σ : xSt} {r : Int × xSt}, q_M_readSides p1 p2 p3 σ = some r → Call d 254 [vR 111, vI p1, vI p2, vI p3] σ (tIW r).1 (tIW r).2) {k14 : (Int → Int → Int → Int → xSt → Option (Int × xSt))} (hk14 : ∀ {l1 : Int} {l2 : Int} {l3 : Int} {l4 : Int} {g5 : Option xV} {σ : xSt} {r : Int × xSt}, k14 l1 l2 l3 l4 σ = some r → Run d 12 2 kX12_readSides (14, [some (vR 111), some (vI l1), some (vI l2), some (vI l3), some (vI l4), g5], [], σ) (tIW r)) {l1 : Int} {l2 : Int} {l3 : Int} {l4 : Int} {l5 : Int} {σ : xSt} {r : Int × xSt} (hf : f_M_readSides_87 q_M_readNode q_M_readSides k14 l1 l2 l3 l4 l5 σ = some r) : Run d 12 2 kX12_readSides (87, [some (vR 111), some (vI l1), some (vI l2), some (vI l3), some (vI l4), some (vI l5)], [], σ) (tIW r) := by
  unfold f_M_readSides_87 at hf
  refine run_seg (k := 2) (s' := (90, [some (vR 111), some (vI l1), some (vI l2), some (vI l3), some (vI l4), some (vI l5)], [vI 58, vR 111], σ)) rfl ?_
  refine run_callN (w := fun a => some (vI a)) (m := 227) (as := [vR 111, vI 58]) (pc := 93) (ls := [some (vR 111), some (vI l1), some (vI l2), some (vI l3), some (vI l4), some (vI l5)]) (st' := []) (σ := σ) hf rfl (fun _ h => (c_M_isSign h).mono (Nat.le_trans (by decide) hd)) (fun r11 hf => ?_)
  refine run_seg (k := 2) (s' := (if r11 = l5 then (98, [some (vR 111), some (vI l1), some (vI l2), some (vI l3), some (vI l4), some (vI l5)], [], σ) else (104, [some (vR 111), some (vI l1), some (vI l2), some (vI l3), some (vI l4), some (vI l5)], [], σ))) rfl ?_
  refine run_ite hf (fun _ hf => ?_) (fun _ hf => ?_)
  · refine run_seg (k := 2) (s' := (100, [some (vR 111), some (vI l1), some (vI l2), some (vI l3), some (vI l4), some (vI l5)], [vI 5, vR 111], σ)) rfl ?_
    refine run_callW (w := fun a => some (vI a)) (m := 229) (as := [vR 111, vI 5]) (pc := 103) (ls := [some (vR 111), some (vI l1), some (vI l2), some (vI l3), some (vI l4), some (vI l5)]) (st' := []) (σ := σ) hf rfl (fun _ _ h => (c_M_bad h).mono (Nat.le_trans (by decide) hd)) (fun r12 σ13 hf => ?_)
    exact run_ret hf rfl
  · refine run_seg (k := 1) (s' := (105, [some (vR 111), some (vI l1), some (vI l2), some (vI l3), some (vI l4), some (vI l5)], [vR 111], σ)) rfl ?_
    refine run_callV (m := 223) (as := [vR 111]) (pc := 108) (ls := [some (vR 111), some (vI l1), some (vI l2), some (vI l3), some (vI l4), some (vI l5)]) (st' := []) (σ := σ) hf rfl (fun _ h => (c_M_go h).mono (Nat.le_trans (by decide) hd)) (fun σ14 hf => ?_)
    refine run_seg (k := 1) (s' := (111, [some (vR 111), some (vI l1), some (vI l2), some (vI l3), some (vI (w32 (l4 + 1))), some (vI l5)], [], σ14)) rfl ?_
    refine run_let (fun x15 => (111, [some (vR 111), some (vI l1), some (vI l2), some (vI l3), some (vI x15), some (vI l5)], [], σ14)) hf (fun x15 hf => ?_)
    refine run_seg (k := 1) (s' := (14, [some (vR 111), some (vI l1), some (vI l2), some (vI l3), some (vI x15), some (vI l5)], [], σ14)) rfl ?_
    exact hk14 hf
theorem r_M_readSides_61 {d : Nat} (hd : 3 ≤ d) {q_M_readNode : (Int → xSt → Option (Int × xSt))} (hq_M_readNode : ∀ {p1 : Int} {σ : xSt} {r : Int × xSt}, q_M_readNode p1 σ = some r → Call d 253 [vR 111, vI p1] σ (tIW r).1 (tIW r).2) {q_M_readSides : (Int → Int → Int → xSt → Option (Int × xSt))} (hq_M_readSides : ∀ {p1 : Int} {p2 : Int} {p3 : Int} {σ : xSt} {r : Int × xSt}, q_M_readSides p1 p2 p3 σ = some r → Call d 254 [vR 111, vI p1, vI p2, vI p3] σ (tIW r).1 (tIW r).2) {k14 : (Int → Int → Int → Int → xSt → Option (Int × xSt))} (hk14 : ∀ {l1 : Int} {l2 : Int} {l3 : Int} {l4 : Int} {g5 : Option xV} {σ : xSt} {r : Int × xSt}, k14 l1 l2 l3 l4 σ = some r → Run d 12 2 kX12_readSides (14, [some (vR 111), some (vI l1), some (vI l2), some (vI l3), some (vI l4), g5], [], σ) (tIW r)) {l1 : Int} {l2 : Int} {l3 : Int} {l4 : Int} {s0 : Int} {g5 : Option xV} {σ : xSt} {r : Int × xSt} (hf : f_M_readSides_61 q_M_readNode q_M_readSides k14 l1 l2 l3 l4 s0 σ = some r) : Run d 12 2 kX12_readSides (61, [some (vR 111), some (vI l1), some (vI l2), some (vI l3), some (vI l4), g5], [vI s0], σ) (tIW r) := by
  unfold f_M_readSides_61 at hf
  refine run_seg (k := 3) (s' := (66, [some (vR 111), some (vI l1), some (vI l2), some (vI l3), some (vI l4), some (vI s0)], [vI 58, vR 111], σ)) rfl ?_
  refine run_callN (w := fun a => some (vI a)) (m := 227) (as := [vR 111, vI 58]) (pc := 69) (ls := [some (vR 111), some (vI l1), some (vI l2), some (vI l3), some (vI l4), some (vI s0)]) (st' := []) (σ := σ) hf rfl (fun _ h => (c_M_isSign h).mono (Nat.le_trans (by decide) hd)) (fun r7 hf => ?_)
  refine run_seg (k := 1) (s' := (if r7 = 0 then (72, [some (vR 111), some (vI l1), some (vI l2), some (vI l3), some (vI l4), some (vI s0)], [], σ) else (87, [some (vR 111), some (vI l1), some (vI l2), some (vI l3), some (vI l4), some (vI s0)], [], σ))) rfl ?_
  refine run_ite hf (fun _ hf => ?_) (fun _ hf => ?_)
  · refine run_seg (k := 2) (s' := (75, [some (vR 111), some (vI l1), some (vI l2), some (vI l3), some (vI l4), some (vI s0)], [vI 41, vR 111], σ)) rfl ?_
    refine run_callN (w := fun a => some (vI a)) (m := 227) (as := [vR 111, vI 41]) (pc := 78) (ls := [some (vR 111), some (vI l1), some (vI l2), some (vI l3), some (vI l4), some (vI s0)]) (st' := []) (σ := σ) hf rfl (fun _ h => (c_M_isSign h).mono (Nat.le_trans (by decide) hd)) (fun r8 hf => ?_)
    refine run_seg (k := 1) (s' := (if r8 = 0 then (81, [some (vR 111), some (vI l1), some (vI l2), some (vI l3), some (vI l4), some (vI s0)], [], σ) else (87, [some (vR 111), some (vI l1), some (vI l2), some (vI l3), some (vI l4), some (vI s0)], [], σ))) rfl ?_
    refine run_ite hf (fun _ hf => ?_) (fun _ hf => ?_)
    · refine run_seg (k := 2) (s' := (83, [some (vR 111), some (vI l1), some (vI l2), some (vI l3), some (vI l4), some (vI s0)], [vI 1, vR 111], σ)) rfl ?_
      refine run_callW (w := fun a => some (vI a)) (m := 229) (as := [vR 111, vI 1]) (pc := 86) (ls := [some (vR 111), some (vI l1), some (vI l2), some (vI l3), some (vI l4), some (vI s0)]) (st' := []) (σ := σ) hf rfl (fun _ _ h => (c_M_bad h).mono (Nat.le_trans (by decide) hd)) (fun r9 σ10 hf => ?_)
      exact run_ret hf rfl
    · exact r_M_readSides_87 hd hq_M_readNode hq_M_readSides (hk14) hf
  · exact r_M_readSides_87 hd hq_M_readNode hq_M_readSides (hk14) hf
theorem r_M_readSides_14 {d : Nat} (hd : 3 ≤ d) {q_M_readNode : (Int → xSt → Option (Int × xSt))} (hq_M_readNode : ∀ {p1 : Int} {σ : xSt} {r : Int × xSt}, q_M_readNode p1 σ = some r → Call d 253 [vR 111, vI p1] σ (tIW r).1 (tIW r).2) {q_M_readSides : (Int → Int → Int → xSt → Option (Int × xSt))} (hq_M_readSides : ∀ {p1 : Int} {p2 : Int} {p3 : Int} {σ : xSt} {r : Int × xSt}, q_M_readSides p1 p2 p3 σ = some r → Call d 254 [vR 111, vI p1, vI p2, vI p3] σ (tIW r).1 (tIW r).2) : ∀ (n : Nat) {l1 : Int} {l2 : Int} {l3 : Int} {l4 : Int} {g5 : Option xV} {σ : xSt} {r : Int × xSt}, f_M_readSides_14 q_M_readNode q_M_readSides n l1 l2 l3 l4 σ = some r → Run d 12 2 kX12_readSides (14, [some (vR 111), some (vI l1), some (vI l2), some (vI l3), some (vI l4), g5], [], σ) (tIW r) := by
  intro n
  induction n with
  | zero =>
    intro _ _ _ _ _ _ _ h
    exact nomatch (show (none : Option (Int × xSt)) = some _ from h)
  | succ n ih =>
    intro l1 l2 l3 l4 g5 σ r hf
    unfold f_M_readSides_14 at hf
    refine run_seg (k := 3) (s' := (if l4 < l2 then (20, [some (vR 111), some (vI l1), some (vI l2), some (vI l3), some (vI l4), g5], [], σ) else (114, [some (vR 111), some (vI l1), some (vI l2), some (vI l3), some (vI l4), g5], [], σ))) rfl ?_
    refine run_ite hf (fun _ hf => ?_) (fun _ hf => ?_)
    · refine run_seg (k := 2) (s' := (22, [some (vR 111), some (vI l1), some (vI l2), some (vI l3), some (vI l4), g5], [vI l3, vR 111], σ)) rfl ?_
      refine run_callW (w := fun a => some (vI a)) (m := 253) (as := [vR 111, vI l3]) (pc := 25) (ls := [some (vR 111), some (vI l1), some (vI l2), some (vI l3), some (vI l4), g5]) (st' := []) (σ := σ) hf rfl (fun _ _ h => (hq_M_readNode h)) (fun r3 σ4 hf => ?_)
      refine run_seg (k := 1) (s' := (if r3 = 0 then (28, [some (vR 111), some (vI l1), some (vI l2), some (vI l3), some (vI l4), g5], [], σ4) else (30, [some (vR 111), some (vI l1), some (vI l2), some (vI l3), some (vI l4), g5], [], σ4))) rfl ?_
      refine run_ite hf (fun _ hf => ?_) (fun _ hf => ?_)
      · refine run_seg (k := 1) (s' := (29, [some (vR 111), some (vI l1), some (vI l2), some (vI l3), some (vI l4), g5], [vI 0], σ4)) rfl ?_
        exact run_ret hf rfl
      · refine run_seg (k := 11) (s' := (47, [some (vR 111), some (vI l1), some (vI l2), some (vI l3), some (vI l4), g5], [vI (σ4 111 26), vI (w32 ((w32 ((w32 (8 * l1)) + 2)) + l4)), vR 115], σ4)) rfl ?_
        refine run_guard (s' := (48, [some (vR 111), some (vI l1), some (vI l2), some (vI l3), some (vI l4), g5], [], upS σ4 115 (w32 ((w32 ((w32 (8 * l1)) + 2)) + l4)).toNat (σ4 111 26))) hf rfl (fun hf => ?_)
        refine run_let (fun σ5 => (48, [some (vR 111), some (vI l1), some (vI l2), some (vI l3), some (vI l4), g5], [], σ5)) hf (fun σ5 hf => ?_)
        refine run_seg (k := 5) (s' := (if l4 = w32 (l2 - 1) then (56, [some (vR 111), some (vI l1), some (vI l2), some (vI l3), some (vI l4), g5], [], σ5) else (60, [some (vR 111), some (vI l1), some (vI l2), some (vI l3), some (vI l4), g5], [], σ5))) rfl ?_
        refine run_ite hf (fun _ hf => ?_) (fun _ hf => ?_)
        · refine run_seg (k := 2) (s' := (61, [some (vR 111), some (vI l1), some (vI l2), some (vI l3), some (vI l4), g5], [vI 1], σ5)) rfl ?_
          exact r_M_readSides_61 hd hq_M_readNode hq_M_readSides (fun h => ih h) hf
        · refine run_seg (k := 1) (s' := (61, [some (vR 111), some (vI l1), some (vI l2), some (vI l3), some (vI l4), g5], [vI 0], σ5)) rfl ?_
          exact r_M_readSides_61 hd hq_M_readNode hq_M_readSides (fun h => ih h) hf
    · refine run_seg (k := 3) (s' := (119, [some (vR 111), some (vI l1), some (vI l2), some (vI l3), some (vI l4), g5], [], upS σ 111 26 l1)) rfl ?_
      refine run_let (fun σ6 => (119, [some (vR 111), some (vI l1), some (vI l2), some (vI l3), some (vI l4), g5], [], σ6)) hf (fun σ6 hf => ?_)
      refine run_seg (k := 1) (s' := (120, [some (vR 111), some (vI l1), some (vI l2), some (vI l3), some (vI l4), g5], [vI 1], σ6)) rfl ?_
      exact run_ret hf rfl
theorem c0_M_readSides {d : Nat} (hd : 3 ≤ d) {q_M_readNode : (Int → xSt → Option (Int × xSt))} (hq_M_readNode : ∀ {p1 : Int} {σ : xSt} {r : Int × xSt}, q_M_readNode p1 σ = some r → Call d 253 [vR 111, vI p1] σ (tIW r).1 (tIW r).2) {q_M_readSides : (Int → Int → Int → xSt → Option (Int × xSt))} (hq_M_readSides : ∀ {p1 : Int} {p2 : Int} {p3 : Int} {σ : xSt} {r : Int × xSt}, q_M_readSides p1 p2 p3 σ = some r → Call d 254 [vR 111, vI p1, vI p2, vI p3] σ (tIW r).1 (tIW r).2) {p1 : Int} {p2 : Int} {p3 : Int} {σ : xSt} {r : Int × xSt} (hf : f0_M_readSides q_M_readNode q_M_readSides p1 p2 p3 σ = some r) : Call (d + 1) 254 [vR 111, vI p1, vI p2, vI p3] σ (tIW r).1 (tIW r).2 := by
  unfold f0_M_readSides at hf
  refine call_of (own := 12) (rk := 2) (cd := kX12_readSides) (ls := [some (vR 111), some (vI p1), some (vI p2), some (vI p3), none, none]) (rT := tIW) rfl rfl rfl rfl rfl ?_
  refine run_seg (k := 2) (s' := (3, [some (vR 111), some (vI p1), some (vI p2), some (vI p3), none, none], [vI 40, vR 111], σ)) rfl ?_
  refine run_callW (w := fun a => some (vI a)) (m := 231) (as := [vR 111, vI 40]) (pc := 6) (ls := [some (vR 111), some (vI p1), some (vI p2), some (vI p3), none, none]) (st' := []) (σ := σ) hf rfl (fun _ _ h => (c_M_readSign h).mono (Nat.le_trans (by decide) hd)) (fun r1 σ2 hf => ?_)
  refine run_seg (k := 1) (s' := (if r1 = 0 then (9, [some (vR 111), some (vI p1), some (vI p2), some (vI p3), none, none], [], σ2) else (11, [some (vR 111), some (vI p1), some (vI p2), some (vI p3), none, none], [], σ2))) rfl ?_
  refine run_ite hf (fun _ hf => ?_) (fun _ hf => ?_)
  · refine run_seg (k := 1) (s' := (10, [some (vR 111), some (vI p1), some (vI p2), some (vI p3), none, none], [vI 0], σ2)) rfl ?_
    exact run_ret hf rfl
  · refine run_seg (k := 2) (s' := (14, [some (vR 111), some (vI p1), some (vI p2), some (vI p3), some (vI 0), none], [], σ2)) rfl ?_
    exact r_M_readSides_14 hd hq_M_readNode hq_M_readSides 1000000 hf
def g_M_readNode : Nat → (Int → xSt → Option (Int × xSt)) × (Int → Int → Int → xSt → Option (Int × xSt))
  | 0 => ((fun _ _ => none), (fun _ _ _ _ => none))
  | n + 1 => ((fun p1 σ => f0_M_readNode ((g_M_readNode n).1) ((g_M_readNode n).2) p1 σ), (fun p1 p2 p3 σ => f0_M_readSides ((g_M_readNode n).1) ((g_M_readNode n).2) p1 p2 p3 σ))
def f_M_readNode (n : Nat) (p1 : Int) (σ : xSt) : Option (Int × xSt) := (g_M_readNode n).1 p1 σ
def f_M_readSides (n : Nat) (p1 : Int) (p2 : Int) (p3 : Int) (σ : xSt) : Option (Int × xSt) := (g_M_readNode n).2 p1 p2 p3 σ
theorem hg_M_readNode : ∀ n, (∀ {p1 : Int} {σ : xSt} {r : Int × xSt}, f_M_readNode n p1 σ = some r → Call (3 + n) 253 [vR 111, vI p1] σ (tIW r).1 (tIW r).2) ∧ (∀ {p1 : Int} {p2 : Int} {p3 : Int} {σ : xSt} {r : Int × xSt}, f_M_readSides n p1 p2 p3 σ = some r → Call (3 + n) 254 [vR 111, vI p1, vI p2, vI p3] σ (tIW r).1 (tIW r).2) := by
  intro n
  induction n with
  | zero => exact ⟨(fun h => nomatch (show (none : Option (Int × xSt)) = some _ from h)), (fun h => nomatch (show (none : Option (Int × xSt)) = some _ from h))⟩
  | succ n ih =>
    obtain ⟨i0, i1⟩ := ih
    exact ⟨(fun h => c0_M_readNode (Nat.le_add_right 3 n) (fun h => i0 h) (fun h => i1 h) h), (fun h => c0_M_readSides (Nat.le_add_right 3 n) (fun h => i0 h) (fun h => i1 h) h)⟩
theorem c_M_readNode {p1 : Int} {σ : xSt} {r : Int × xSt} (hf : f_M_readNode 60 p1 σ = some r) : Call 63 253 [vR 111, vI p1] σ (tIW r).1 (tIW r).2 := ((hg_M_readNode 60).1) hf
theorem c_M_readSides {p1 : Int} {p2 : Int} {p3 : Int} {σ : xSt} {r : Int × xSt} (hf : f_M_readSides 60 p1 p2 p3 σ = some r) : Call 63 254 [vR 111, vI p1, vI p2, vI p3] σ (tIW r).1 (tIW r).2 := ((hg_M_readNode 60).2) hf
def f_M_way_49 : Nat → Int → xSt → Option (Int × xSt)
  | 0, _, _ => none
  | n + 1, l1, σ =>
    if l1 < w32 (8 * (σ 111 25)) then (if 0 ≤ l1 ∧ l1 < 640 then (
    if 0 ≤ w32 (42 + l1) ∧ w32 (42 + l1) < 924 then (
    xlet (upS σ 113 (w32 (42 + l1)).toNat (σ 115 l1.toNat)) fun σ7 =>
    xlet (w32 (l1 + 1)) fun x8 =>
    f_M_way_49 n x8 σ7) else none) else none)
    else (xlet (upS σ 113 41 (σ 111 25)) fun σ9 =>
    some (σ9 111 25, σ9))
/-- BentPennyModel.way()I -/
def f_M_way (σ : xSt) : Option (Int × xSt) :=
  xbR (f_M_begin 600 σ) fun σ1 =>
  xlet (upS σ1 111 25 0) fun σ2 =>
  xbW (f_M_readNode 60 0 σ2) fun r3 σ4 =>
  if r3 = 0 then (some (w32 ((-1) - (σ4 111 11)), σ4))
  else (if σ4 111 7 = 0 then (f_M_way_49 1000000 0 σ4)
  else (xbW (f_M_bad 1 σ4) fun r5 σ6 =>
  some (w32 ((-1) - (σ6 111 11)), σ6)))
theorem r_M_way_49 : ∀ (n : Nat) {l1 : Int} {σ : xSt} {r : Int × xSt}, f_M_way_49 n l1 σ = some r → Run 63 12 1 kX12_way (49, [some (vR 111), some (vI l1)], [], σ) (tIW r) := by
  intro n
  induction n with
  | zero =>
    intro _ _ _ h
    exact nomatch (show (none : Option (Int × xSt)) = some _ from h)
  | succ n ih =>
    intro l1 σ r hf
    unfold f_M_way_49 at hf
    refine run_seg (k := 6) (s' := (if l1 < w32 (8 * (σ 111 25)) then (60, [some (vR 111), some (vI l1)], [], σ) else (81, [some (vR 111), some (vI l1)], [], σ))) rfl ?_
    refine run_ite hf (fun _ hf => ?_) (fun _ hf => ?_)
    · refine run_seg (k := 8) (s' := (73, [some (vR 111), some (vI l1)], [vI l1, vR 115, vI (w32 (42 + l1)), vR 113], σ)) rfl ?_
      refine run_guard (s' := (74, [some (vR 111), some (vI l1)], [vI (σ 115 l1.toNat), vI (w32 (42 + l1)), vR 113], σ)) hf rfl (fun hf => ?_)
      refine run_guard (s' := (75, [some (vR 111), some (vI l1)], [], upS σ 113 (w32 (42 + l1)).toNat (σ 115 l1.toNat))) hf rfl (fun hf => ?_)
      refine run_let (fun σ7 => (75, [some (vR 111), some (vI l1)], [], σ7)) hf (fun σ7 hf => ?_)
      refine run_seg (k := 1) (s' := (78, [some (vR 111), some (vI (w32 (l1 + 1)))], [], σ7)) rfl ?_
      refine run_let (fun x8 => (78, [some (vR 111), some (vI x8)], [], σ7)) hf (fun x8 hf => ?_)
      refine run_seg (k := 1) (s' := (49, [some (vR 111), some (vI x8)], [], σ7)) rfl ?_
      exact ih hf
    · refine run_seg (k := 6) (s' := (92, [some (vR 111), some (vI l1)], [], upS σ 113 41 (σ 111 25))) rfl ?_
      refine run_let (fun σ9 => (92, [some (vR 111), some (vI l1)], [], σ9)) hf (fun σ9 hf => ?_)
      refine run_seg (k := 2) (s' := (96, [some (vR 111), some (vI l1)], [vI (σ9 111 25)], σ9)) rfl ?_
      exact run_ret hf rfl
theorem c_M_way {σ : xSt} {r : Int × xSt} (hf : f_M_way σ = some r) : Call (63 + 1) 255 [vR 111] σ (tIW r).1 (tIW r).2 := by
  unfold f_M_way at hf
  refine call_of (own := 12) (rk := 1) (cd := kX12_way) (ls := [some (vR 111), none]) (rT := tIW) rfl rfl rfl rfl rfl ?_
  refine run_seg (k := 2) (s' := (4, [some (vR 111), none], [vI 600, vR 111], σ)) rfl ?_
  refine run_callV (m := 232) (as := [vR 111, vI 600]) (pc := 7) (ls := [some (vR 111), none]) (st' := []) (σ := σ) hf rfl (fun _ h => (c_M_begin h).mono (by decide)) (fun σ1 hf => ?_)
  refine run_seg (k := 3) (s' := (12, [some (vR 111), none], [], upS σ1 111 25 0)) rfl ?_
  refine run_let (fun σ2 => (12, [some (vR 111), none], [], σ2)) hf (fun σ2 hf => ?_)
  refine run_seg (k := 2) (s' := (14, [some (vR 111), none], [vI 0, vR 111], σ2)) rfl ?_
  refine run_callW (w := fun a => some (vI a)) (m := 253) (as := [vR 111, vI 0]) (pc := 17) (ls := [some (vR 111), none]) (st' := []) (σ := σ2) hf rfl (fun _ _ h => (c_M_readNode h).mono (by decide)) (fun r3 σ4 hf => ?_)
  refine run_seg (k := 1) (s' := (if r3 = 0 then (20, [some (vR 111), none], [], σ4) else (27, [some (vR 111), none], [], σ4))) rfl ?_
  refine run_ite hf (fun _ hf => ?_) (fun _ hf => ?_)
  · refine run_seg (k := 4) (s' := (26, [some (vR 111), none], [vI (w32 ((-1) - (σ4 111 11)))], σ4)) rfl ?_
    exact run_ret hf rfl
  · refine run_seg (k := 3) (s' := (if σ4 111 7 = 0 then (47, [some (vR 111), none], [], σ4) else (34, [some (vR 111), none], [], σ4))) rfl ?_
    refine run_ite hf (fun _ hf => ?_) (fun _ hf => ?_)
    · refine run_seg (k := 2) (s' := (49, [some (vR 111), some (vI 0)], [], σ4)) rfl ?_
      exact r_M_way_49 1000000 hf
    · refine run_seg (k := 2) (s' := (36, [some (vR 111), none], [vI 1, vR 111], σ4)) rfl ?_
      refine run_callW (w := fun a => some (vI a)) (m := 229) (as := [vR 111, vI 1]) (pc := 39) (ls := [some (vR 111), none]) (st' := []) (σ := σ4) hf rfl (fun _ _ h => (c_M_bad h).mono (by decide)) (fun r5 σ6 hf => ?_)
      refine run_seg (k := 5) (s' := (46, [some (vR 111), none], [vI (w32 ((-1) - (σ6 111 11)))], σ6)) rfl ?_
      exact run_ret hf rfl
/-- BentPennyModel.isNode(I)Z -/
def f_M_isNode (p1 : Int) (σ : xSt) : Option (Int) :=
  if p1 < 0 then (some 0)
  else (if p1 < σ 113 41 then (some 1)
  else (some 0))
theorem c_M_isNode {p1 : Int} {σ : xSt} {r : Int} (hf : f_M_isNode p1 σ = some r) : Call (0 + 1) 256 [vR 111, vI p1] σ ((tI σ) r).1 ((tI σ) r).2 := by
  unfold f_M_isNode at hf
  refine call_of (own := 12) (rk := 2) (cd := kX12_isNode) (ls := [some (vR 111), some (vI p1)]) (rT := (tI σ)) rfl rfl rfl rfl rfl ?_
  refine run_seg (k := 2) (s' := (if p1 < 0 then (19, [some (vR 111), some (vI p1)], [], σ) else (4, [some (vR 111), some (vI p1)], [], σ))) rfl ?_
  refine run_ite hf (fun _ hf => ?_) (fun _ hf => ?_)
  · refine run_seg (k := 1) (s' := (20, [some (vR 111), some (vI p1)], [vI 0], σ)) rfl ?_
    exact run_ret hf rfl
  · refine run_seg (k := 6) (s' := (if p1 < σ 113 41 then (15, [some (vR 111), some (vI p1)], [], σ) else (19, [some (vR 111), some (vI p1)], [], σ))) rfl ?_
    refine run_ite hf (fun _ hf => ?_) (fun _ hf => ?_)
    · refine run_seg (k := 2) (s' := (20, [some (vR 111), some (vI p1)], [vI 1], σ)) rfl ?_
      exact run_ret hf rfl
    · refine run_seg (k := 1) (s' := (20, [some (vR 111), some (vI p1)], [vI 0], σ)) rfl ?_
      exact run_ret hf rfl
/-- BentPennyModel.sortOf(I)I -/
def f_M_sortOf (p1 : Int) (σ : xSt) : Option (Int) :=
  if 0 ≤ w32 (42 + (w32 (8 * p1))) ∧ w32 (42 + (w32 (8 * p1))) < 924 then (
  some (σ 113 (w32 (42 + (w32 (8 * p1)))).toNat)) else none
theorem c_M_sortOf {p1 : Int} {σ : xSt} {r : Int} (hf : f_M_sortOf p1 σ = some r) : Call (0 + 1) 257 [vR 111, vI p1] σ ((tI σ) r).1 ((tI σ) r).2 := by
  unfold f_M_sortOf at hf
  refine call_of (own := 12) (rk := 1) (cd := kX12_sortOf) (ls := [some (vR 111), some (vI p1)]) (rT := (tI σ)) rfl rfl rfl rfl rfl ?_
  refine run_seg (k := 7) (s' := (11, [some (vR 111), some (vI p1)], [vI (w32 (42 + (w32 (8 * p1)))), vR 113], σ)) rfl ?_
  refine run_guard (s' := (12, [some (vR 111), some (vI p1)], [vI (σ 113 (w32 (42 + (w32 (8 * p1)))).toNat)], σ)) hf rfl (fun hf => ?_)
  exact run_ret hf rfl
/-- BentPennyModel.whichOf(I)I -/
def f_M_whichOf (p1 : Int) (σ : xSt) : Option (Int) :=
  if 0 ≤ w32 ((w32 (42 + (w32 (8 * p1)))) + 1) ∧ w32 ((w32 (42 + (w32 (8 * p1)))) + 1) < 924 then (
  some (σ 113 (w32 ((w32 (42 + (w32 (8 * p1)))) + 1)).toNat)) else none
theorem c_M_whichOf {p1 : Int} {σ : xSt} {r : Int} (hf : f_M_whichOf p1 σ = some r) : Call (0 + 1) 258 [vR 111, vI p1] σ ((tI σ) r).1 ((tI σ) r).2 := by
  unfold f_M_whichOf at hf
  refine call_of (own := 12) (rk := 1) (cd := kX12_whichOf) (ls := [some (vR 111), some (vI p1)]) (rT := (tI σ)) rfl rfl rfl rfl rfl ?_
  refine run_seg (k := 9) (s' := (13, [some (vR 111), some (vI p1)], [vI (w32 ((w32 (42 + (w32 (8 * p1)))) + 1)), vR 113], σ)) rfl ?_
  refine run_guard (s' := (14, [some (vR 111), some (vI p1)], [vI (σ 113 (w32 ((w32 (42 + (w32 (8 * p1)))) + 1)).toNat)], σ)) hf rfl (fun hf => ?_)
  exact run_ret hf rfl
/-- BentPennyModel.nextOf(II)I -/
def f_M_nextOf (p1 : Int) (p2 : Int) (σ : xSt) : Option (Int) :=
  if 0 ≤ w32 ((w32 ((w32 (42 + (w32 (8 * p1)))) + 2)) + p2) ∧ w32 ((w32 ((w32 (42 + (w32 (8 * p1)))) + 2)) + p2) < 924 then (
  some (σ 113 (w32 ((w32 ((w32 (42 + (w32 (8 * p1)))) + 2)) + p2)).toNat)) else none
theorem c_M_nextOf {p1 : Int} {p2 : Int} {σ : xSt} {r : Int} (hf : f_M_nextOf p1 p2 σ = some r) : Call (0 + 1) 259 [vR 111, vI p1, vI p2] σ ((tI σ) r).1 ((tI σ) r).2 := by
  unfold f_M_nextOf at hf
  refine call_of (own := 12) (rk := 1) (cd := kX12_nextOf) (ls := [some (vR 111), some (vI p1), some (vI p2)]) (rT := (tI σ)) rfl rfl rfl rfl rfl ?_
  refine run_seg (k := 11) (s' := (15, [some (vR 111), some (vI p1), some (vI p2)], [vI (w32 ((w32 ((w32 (42 + (w32 (8 * p1)))) + 2)) + p2)), vR 113], σ)) rfl ?_
  refine run_guard (s' := (16, [some (vR 111), some (vI p1), some (vI p2)], [vI (σ 113 (w32 ((w32 ((w32 (42 + (w32 (8 * p1)))) + 2)) + p2)).toNat)], σ)) hf rfl (fun hf => ?_)
  exact run_ret hf rfl
/-- BentPennyModel.node(I)I -/
def f_M_node (p1 : Int) (σ : xSt) : Option (Int × xSt) :=
  xlet (upS σ 111 0 0) fun σ1 =>
  xbR (f_M_isNode p1 σ1) fun r2 =>
  if r2 = 0 then (some ((-1), σ1))
  else (xbR (f_M_sortOf p1 σ1) fun r3 =>
  some (r3, σ1))
theorem c_M_node {p1 : Int} {σ : xSt} {r : Int × xSt} (hf : f_M_node p1 σ = some r) : Call (1 + 1) 260 [vR 111, vI p1] σ (tIW r).1 (tIW r).2 := by
  unfold f_M_node at hf
  refine call_of (own := 12) (rk := 1) (cd := kX12_node) (ls := [some (vR 111), some (vI p1)]) (rT := tIW) rfl rfl rfl rfl rfl ?_
  refine run_seg (k := 3) (s' := (5, [some (vR 111), some (vI p1)], [], upS σ 111 0 0)) rfl ?_
  refine run_let (fun σ1 => (5, [some (vR 111), some (vI p1)], [], σ1)) hf (fun σ1 hf => ?_)
  refine run_seg (k := 2) (s' := (7, [some (vR 111), some (vI p1)], [vI p1, vR 111], σ1)) rfl ?_
  refine run_callN (w := fun a => some (vI a)) (m := 256) (as := [vR 111, vI p1]) (pc := 10) (ls := [some (vR 111), some (vI p1)]) (st' := []) (σ := σ1) hf rfl (fun _ h => (c_M_isNode h).mono (by decide)) (fun r2 hf => ?_)
  refine run_seg (k := 1) (s' := (if r2 = 0 then (21, [some (vR 111), some (vI p1)], [], σ1) else (13, [some (vR 111), some (vI p1)], [], σ1))) rfl ?_
  refine run_ite hf (fun _ hf => ?_) (fun _ hf => ?_)
  · refine run_seg (k := 1) (s' := (22, [some (vR 111), some (vI p1)], [vI (-1)], σ1)) rfl ?_
    exact run_ret hf rfl
  · refine run_seg (k := 2) (s' := (15, [some (vR 111), some (vI p1)], [vI p1, vR 111], σ1)) rfl ?_
    refine run_callN (w := fun a => some (vI a)) (m := 257) (as := [vR 111, vI p1]) (pc := 18) (ls := [some (vR 111), some (vI p1)]) (st' := []) (σ := σ1) hf rfl (fun _ h => (c_M_sortOf h).mono (by decide)) (fun r3 hf => ?_)
    refine run_seg (k := 1) (s' := (22, [some (vR 111), some (vI p1)], [vI r3], σ1)) rfl ?_
    exact run_ret hf rfl
/-- BentPennyModel.nodeOf(I)I -/
def f_M_nodeOf (p1 : Int) (σ : xSt) : Option (Int × xSt) :=
  xlet (upS σ 111 0 0) fun σ1 =>
  xbR (f_M_isNode p1 σ1) fun r2 =>
  if r2 = 0 then (some ((-1), σ1))
  else (xbR (f_M_whichOf p1 σ1) fun r3 =>
  some (r3, σ1))
theorem c_M_nodeOf {p1 : Int} {σ : xSt} {r : Int × xSt} (hf : f_M_nodeOf p1 σ = some r) : Call (1 + 1) 261 [vR 111, vI p1] σ (tIW r).1 (tIW r).2 := by
  unfold f_M_nodeOf at hf
  refine call_of (own := 12) (rk := 1) (cd := kX12_nodeOf) (ls := [some (vR 111), some (vI p1)]) (rT := tIW) rfl rfl rfl rfl rfl ?_
  refine run_seg (k := 3) (s' := (5, [some (vR 111), some (vI p1)], [], upS σ 111 0 0)) rfl ?_
  refine run_let (fun σ1 => (5, [some (vR 111), some (vI p1)], [], σ1)) hf (fun σ1 hf => ?_)
  refine run_seg (k := 2) (s' := (7, [some (vR 111), some (vI p1)], [vI p1, vR 111], σ1)) rfl ?_
  refine run_callN (w := fun a => some (vI a)) (m := 256) (as := [vR 111, vI p1]) (pc := 10) (ls := [some (vR 111), some (vI p1)]) (st' := []) (σ := σ1) hf rfl (fun _ h => (c_M_isNode h).mono (by decide)) (fun r2 hf => ?_)
  refine run_seg (k := 1) (s' := (if r2 = 0 then (21, [some (vR 111), some (vI p1)], [], σ1) else (13, [some (vR 111), some (vI p1)], [], σ1))) rfl ?_
  refine run_ite hf (fun _ hf => ?_) (fun _ hf => ?_)
  · refine run_seg (k := 1) (s' := (22, [some (vR 111), some (vI p1)], [vI (-1)], σ1)) rfl ?_
    exact run_ret hf rfl
  · refine run_seg (k := 2) (s' := (15, [some (vR 111), some (vI p1)], [vI p1, vR 111], σ1)) rfl ?_
    refine run_callN (w := fun a => some (vI a)) (m := 258) (as := [vR 111, vI p1]) (pc := 18) (ls := [some (vR 111), some (vI p1)]) (st' := []) (σ := σ1) hf rfl (fun _ h => (c_M_whichOf h).mono (by decide)) (fun r3 hf => ?_)
    refine run_seg (k := 1) (s' := (22, [some (vR 111), some (vI p1)], [vI r3], σ1)) rfl ?_
    exact run_ret hf rfl
/-- BentPennyModel.next(II)I -/
def f_M_next (p1 : Int) (p2 : Int) (σ : xSt) : Option (Int × xSt) :=
  xlet (upS σ 111 0 0) fun σ1 =>
  xbR (f_M_isNode p1 σ1) fun r2 =>
  if r2 = 0 then (some ((-1), σ1))
  else (xbR (f_M_sortOf p1 σ1) fun r3 =>
  if r3 = 2 then (if p2 < 0 then (some ((-1), σ1))
  else (xbR (f_M_whichOf p1 σ1) fun r4 =>
  xbR (f_M_sidesOf r4 σ1) fun r5 =>
  if p2 < r5 then (xbR (f_M_nextOf p1 p2 σ1) fun r6 =>
  some (r6, σ1))
  else (some ((-1), σ1))))
  else (some ((-1), σ1)))
theorem c_M_next {p1 : Int} {p2 : Int} {σ : xSt} {r : Int × xSt} (hf : f_M_next p1 p2 σ = some r) : Call (1 + 1) 262 [vR 111, vI p1, vI p2] σ (tIW r).1 (tIW r).2 := by
  unfold f_M_next at hf
  refine call_of (own := 12) (rk := 1) (cd := kX12_next) (ls := [some (vR 111), some (vI p1), some (vI p2)]) (rT := tIW) rfl rfl rfl rfl rfl ?_
  refine run_seg (k := 3) (s' := (5, [some (vR 111), some (vI p1), some (vI p2)], [], upS σ 111 0 0)) rfl ?_
  refine run_let (fun σ1 => (5, [some (vR 111), some (vI p1), some (vI p2)], [], σ1)) hf (fun σ1 hf => ?_)
  refine run_seg (k := 2) (s' := (7, [some (vR 111), some (vI p1), some (vI p2)], [vI p1, vR 111], σ1)) rfl ?_
  refine run_callN (w := fun a => some (vI a)) (m := 256) (as := [vR 111, vI p1]) (pc := 10) (ls := [some (vR 111), some (vI p1), some (vI p2)]) (st' := []) (σ := σ1) hf rfl (fun _ h => (c_M_isNode h).mono (by decide)) (fun r2 hf => ?_)
  refine run_seg (k := 1) (s' := (if r2 = 0 then (51, [some (vR 111), some (vI p1), some (vI p2)], [], σ1) else (13, [some (vR 111), some (vI p1), some (vI p2)], [], σ1))) rfl ?_
  refine run_ite hf (fun _ hf => ?_) (fun _ hf => ?_)
  · refine run_seg (k := 1) (s' := (52, [some (vR 111), some (vI p1), some (vI p2)], [vI (-1)], σ1)) rfl ?_
    exact run_ret hf rfl
  · refine run_seg (k := 2) (s' := (15, [some (vR 111), some (vI p1), some (vI p2)], [vI p1, vR 111], σ1)) rfl ?_
    refine run_callN (w := fun a => some (vI a)) (m := 257) (as := [vR 111, vI p1]) (pc := 18) (ls := [some (vR 111), some (vI p1), some (vI p2)]) (st' := []) (σ := σ1) hf rfl (fun _ h => (c_M_sortOf h).mono (by decide)) (fun r3 hf => ?_)
    refine run_seg (k := 2) (s' := (if r3 = 2 then (22, [some (vR 111), some (vI p1), some (vI p2)], [], σ1) else (51, [some (vR 111), some (vI p1), some (vI p2)], [], σ1))) rfl ?_
    refine run_ite hf (fun _ hf => ?_) (fun _ hf => ?_)
    · refine run_seg (k := 2) (s' := (if p2 < 0 then (51, [some (vR 111), some (vI p1), some (vI p2)], [], σ1) else (26, [some (vR 111), some (vI p1), some (vI p2)], [], σ1))) rfl ?_
      refine run_ite hf (fun _ hf => ?_) (fun _ hf => ?_)
      · refine run_seg (k := 1) (s' := (52, [some (vR 111), some (vI p1), some (vI p2)], [vI (-1)], σ1)) rfl ?_
        exact run_ret hf rfl
      · refine run_seg (k := 5) (s' := (33, [some (vR 111), some (vI p1), some (vI p2)], [vI p1, vR 111, vR 113, vI p2], σ1)) rfl ?_
        refine run_callN (w := fun a => some (vI a)) (m := 258) (as := [vR 111, vI p1]) (pc := 36) (ls := [some (vR 111), some (vI p1), some (vI p2)]) (st' := [vR 113, vI p2]) (σ := σ1) hf rfl (fun _ h => (c_M_whichOf h).mono (by decide)) (fun r4 hf => ?_)
        refine run_callN (w := fun a => some (vI a)) (m := 234) (as := [vR 113, vI r4]) (pc := 39) (ls := [some (vR 111), some (vI p1), some (vI p2)]) (st' := [vI p2]) (σ := σ1) hf rfl (fun _ h => (c_M_sidesOf h).mono (by decide)) (fun r5 hf => ?_)
        refine run_seg (k := 1) (s' := (if p2 < r5 then (42, [some (vR 111), some (vI p1), some (vI p2)], [], σ1) else (51, [some (vR 111), some (vI p1), some (vI p2)], [], σ1))) rfl ?_
        refine run_ite hf (fun _ hf => ?_) (fun _ hf => ?_)
        · refine run_seg (k := 3) (s' := (45, [some (vR 111), some (vI p1), some (vI p2)], [vI p2, vI p1, vR 111], σ1)) rfl ?_
          refine run_callN (w := fun a => some (vI a)) (m := 259) (as := [vR 111, vI p1, vI p2]) (pc := 48) (ls := [some (vR 111), some (vI p1), some (vI p2)]) (st' := []) (σ := σ1) hf rfl (fun _ h => (c_M_nextOf h).mono (by decide)) (fun r6 hf => ?_)
          refine run_seg (k := 1) (s' := (52, [some (vR 111), some (vI p1), some (vI p2)], [vI r6], σ1)) rfl ?_
          exact run_ret hf rfl
        · refine run_seg (k := 1) (s' := (52, [some (vR 111), some (vI p1), some (vI p2)], [vI (-1)], σ1)) rfl ?_
          exact run_ret hf rfl
    · refine run_seg (k := 1) (s' := (52, [some (vR 111), some (vI p1), some (vI p2)], [vI (-1)], σ1)) rfl ?_
      exact run_ret hf rfl
/-- BentPennyModel.hasWay()Z -/
def f_M_hasWay (σ : xSt) : Option (Int) :=
  if 0 < σ 113 41 then (some 1)
  else (some 0)
theorem c_M_hasWay {σ : xSt} {r : Int} (hf : f_M_hasWay σ = some r) : Call (0 + 1) 263 [vR 111] σ ((tI σ) r).1 ((tI σ) r).2 := by
  unfold f_M_hasWay at hf
  refine call_of (own := 12) (rk := 2) (cd := kX12_hasWay) (ls := [some (vR 111)]) (rT := (tI σ)) rfl rfl rfl rfl rfl ?_
  refine run_seg (k := 5) (s' := (if 0 < σ 113 41 then (10, [some (vR 111)], [], σ) else (14, [some (vR 111)], [], σ))) rfl ?_
  refine run_ite hf (fun _ hf => ?_) (fun _ hf => ?_)
  · refine run_seg (k := 2) (s' := (15, [some (vR 111)], [vI 1], σ)) rfl ?_
    exact run_ret hf rfl
  · refine run_seg (k := 1) (s' := (15, [some (vR 111)], [vI 0], σ)) rfl ?_
    exact run_ret hf rfl
def f_M_deepOf_15 (q_M_deepOf : (Int → xSt → Option (Int))) : Nat → Int → Int → Int → xSt → Option (Int)
  | 0, _, _, _, _ => none
  | n + 1, l1, l2, l3, σ =>
    xbR (f_M_whichOf l1 σ) fun r2 =>
    xbR (f_M_sidesOf r2 σ) fun r3 =>
    if l3 < r3 then (xbR (f_M_nextOf l1 l3 σ) fun r4 =>
    xbR (q_M_deepOf r4 σ) fun r5 =>
    if l2 < r5 then (xlet (w32 (l3 + 1)) fun x6 =>
    f_M_deepOf_15 q_M_deepOf n l1 r5 x6 σ)
    else (xlet (w32 (l3 + 1)) fun x7 =>
    f_M_deepOf_15 q_M_deepOf n l1 l2 x7 σ))
    else (some (w32 (l2 + 1)))
/-- BentPennyModel.deepOf(I)I -/
def f0_M_deepOf (q_M_deepOf : (Int → xSt → Option (Int))) (p1 : Int) (σ : xSt) : Option (Int) :=
  xbR (f_M_sortOf p1 σ) fun r1 =>
  if r1 = 2 then (f_M_deepOf_15 q_M_deepOf 1000000 p1 0 0 σ)
  else (some 0)
theorem r_M_deepOf_15 {d : Nat} (hd : 1 ≤ d) {q_M_deepOf : (Int → xSt → Option (Int))} (hq_M_deepOf : ∀ {p1 : Int} {σ : xSt} {r : Int}, q_M_deepOf p1 σ = some r → Call d 264 [vR 111, vI p1] σ ((tI σ) r).1 ((tI σ) r).2) : ∀ (n : Nat) {l1 : Int} {l2 : Int} {l3 : Int} {g4 : Option xV} {σ : xSt} {r : Int}, f_M_deepOf_15 q_M_deepOf n l1 l2 l3 σ = some r → Run d 12 1 kX12_deepOf (15, [some (vR 111), some (vI l1), some (vI l2), some (vI l3), g4], [], σ) ((tI σ) r) := by
  intro n
  induction n with
  | zero =>
    intro _ _ _ _ _ _ h
    exact nomatch (show (none : Option (Int)) = some _ from h)
  | succ n ih =>
    intro l1 l2 l3 g4 σ r hf
    unfold f_M_deepOf_15 at hf
    refine run_seg (k := 5) (s' := (22, [some (vR 111), some (vI l1), some (vI l2), some (vI l3), g4], [vI l1, vR 111, vR 113, vI l3], σ)) rfl ?_
    refine run_callN (w := fun a => some (vI a)) (m := 258) (as := [vR 111, vI l1]) (pc := 25) (ls := [some (vR 111), some (vI l1), some (vI l2), some (vI l3), g4]) (st' := [vR 113, vI l3]) (σ := σ) hf rfl (fun _ h => (c_M_whichOf h).mono (Nat.le_trans (by decide) hd)) (fun r2 hf => ?_)
    refine run_callN (w := fun a => some (vI a)) (m := 234) (as := [vR 113, vI r2]) (pc := 28) (ls := [some (vR 111), some (vI l1), some (vI l2), some (vI l3), g4]) (st' := [vI l3]) (σ := σ) hf rfl (fun _ h => (c_M_sidesOf h).mono (Nat.le_trans (by decide) hd)) (fun r3 hf => ?_)
    refine run_seg (k := 1) (s' := (if l3 < r3 then (31, [some (vR 111), some (vI l1), some (vI l2), some (vI l3), g4], [], σ) else (58, [some (vR 111), some (vI l1), some (vI l2), some (vI l3), g4], [], σ))) rfl ?_
    refine run_ite hf (fun _ hf => ?_) (fun _ hf => ?_)
    · refine run_seg (k := 4) (s' := (35, [some (vR 111), some (vI l1), some (vI l2), some (vI l3), g4], [vI l3, vI l1, vR 111, vR 111], σ)) rfl ?_
      refine run_callN (w := fun a => some (vI a)) (m := 259) (as := [vR 111, vI l1, vI l3]) (pc := 38) (ls := [some (vR 111), some (vI l1), some (vI l2), some (vI l3), g4]) (st' := [vR 111]) (σ := σ) hf rfl (fun _ h => (c_M_nextOf h).mono (Nat.le_trans (by decide) hd)) (fun r4 hf => ?_)
      refine run_callN (w := fun a => some (vI a)) (m := 264) (as := [vR 111, vI r4]) (pc := 41) (ls := [some (vR 111), some (vI l1), some (vI l2), some (vI l3), g4]) (st' := []) (σ := σ) hf rfl (fun _ h => (hq_M_deepOf h)) (fun r5 hf => ?_)
      refine run_seg (k := 4) (s' := (if l2 < r5 then (49, [some (vR 111), some (vI l1), some (vI l2), some (vI l3), some (vI r5)], [], σ) else (52, [some (vR 111), some (vI l1), some (vI l2), some (vI l3), some (vI r5)], [], σ))) rfl ?_
      refine run_ite hf (fun _ hf => ?_) (fun _ hf => ?_)
      · refine run_seg (k := 3) (s' := (55, [some (vR 111), some (vI l1), some (vI r5), some (vI (w32 (l3 + 1))), some (vI r5)], [], σ)) rfl ?_
        refine run_let (fun x6 => (55, [some (vR 111), some (vI l1), some (vI r5), some (vI x6), some (vI r5)], [], σ)) hf (fun x6 hf => ?_)
        refine run_seg (k := 1) (s' := (15, [some (vR 111), some (vI l1), some (vI r5), some (vI x6), some (vI r5)], [], σ)) rfl ?_
        exact ih hf
      · refine run_seg (k := 1) (s' := (55, [some (vR 111), some (vI l1), some (vI l2), some (vI (w32 (l3 + 1))), some (vI r5)], [], σ)) rfl ?_
        refine run_let (fun x7 => (55, [some (vR 111), some (vI l1), some (vI l2), some (vI x7), some (vI r5)], [], σ)) hf (fun x7 hf => ?_)
        refine run_seg (k := 1) (s' := (15, [some (vR 111), some (vI l1), some (vI l2), some (vI x7), some (vI r5)], [], σ)) rfl ?_
        exact ih hf
    · refine run_seg (k := 3) (s' := (61, [some (vR 111), some (vI l1), some (vI l2), some (vI l3), g4], [vI (w32 (l2 + 1))], σ)) rfl ?_
      exact run_ret hf rfl
theorem c0_M_deepOf {d : Nat} (hd : 1 ≤ d) {q_M_deepOf : (Int → xSt → Option (Int))} (hq_M_deepOf : ∀ {p1 : Int} {σ : xSt} {r : Int}, q_M_deepOf p1 σ = some r → Call d 264 [vR 111, vI p1] σ ((tI σ) r).1 ((tI σ) r).2) {p1 : Int} {σ : xSt} {r : Int} (hf : f0_M_deepOf q_M_deepOf p1 σ = some r) : Call (d + 1) 264 [vR 111, vI p1] σ ((tI σ) r).1 ((tI σ) r).2 := by
  unfold f0_M_deepOf at hf
  refine call_of (own := 12) (rk := 1) (cd := kX12_deepOf) (ls := [some (vR 111), some (vI p1), none, none, none]) (rT := (tI σ)) rfl rfl rfl rfl rfl ?_
  refine run_seg (k := 2) (s' := (2, [some (vR 111), some (vI p1), none, none, none], [vI p1, vR 111], σ)) rfl ?_
  refine run_callN (w := fun a => some (vI a)) (m := 257) (as := [vR 111, vI p1]) (pc := 5) (ls := [some (vR 111), some (vI p1), none, none, none]) (st' := []) (σ := σ) hf rfl (fun _ h => (c_M_sortOf h).mono (Nat.le_trans (by decide) hd)) (fun r1 hf => ?_)
  refine run_seg (k := 2) (s' := (if r1 = 2 then (11, [some (vR 111), some (vI p1), none, none, none], [], σ) else (9, [some (vR 111), some (vI p1), none, none, none], [], σ))) rfl ?_
  refine run_ite hf (fun _ hf => ?_) (fun _ hf => ?_)
  · refine run_seg (k := 4) (s' := (15, [some (vR 111), some (vI p1), some (vI 0), some (vI 0), none], [], σ)) rfl ?_
    exact r_M_deepOf_15 hd hq_M_deepOf 1000000 hf
  · refine run_seg (k := 1) (s' := (10, [some (vR 111), some (vI p1), none, none, none], [vI 0], σ)) rfl ?_
    exact run_ret hf rfl
def g_M_deepOf : Nat → (Int → xSt → Option (Int))
  | 0 => ((fun _ _ => none))
  | n + 1 => ((fun p1 σ => f0_M_deepOf (g_M_deepOf n) p1 σ))
def f_M_deepOf (n : Nat) (p1 : Int) (σ : xSt) : Option (Int) := g_M_deepOf n p1 σ
theorem hg_M_deepOf : ∀ n, (∀ {p1 : Int} {σ : xSt} {r : Int}, f_M_deepOf n p1 σ = some r → Call (1 + n) 264 [vR 111, vI p1] σ ((tI σ) r).1 ((tI σ) r).2) := by
  intro n
  induction n with
  | zero => exact fun h => nomatch (show (none : Option (Int)) = some _ from h)
  | succ n ih => exact fun h => c0_M_deepOf (Nat.le_add_right 1 n) (fun h => ih h) h
theorem c_M_deepOf {p1 : Int} {σ : xSt} {r : Int} (hf : f_M_deepOf 60 p1 σ = some r) : Call 61 264 [vR 111, vI p1] σ ((tI σ) r).1 ((tI σ) r).2 := (hg_M_deepOf 60) hf
/-- BentPennyModel.deep()I -/
def f_M_deep (σ : xSt) : Option (Int × xSt) :=
  xlet (upS σ 111 0 0) fun σ1 =>
  xbR (f_M_hasWay σ1) fun r2 =>
  if r2 = 0 then (some (0, σ1))
  else (xbR (f_M_deepOf 60 0 σ1) fun r3 =>
  some (r3, σ1))
theorem c_M_deep {σ : xSt} {r : Int × xSt} (hf : f_M_deep σ = some r) : Call (61 + 1) 265 [vR 111] σ (tIW r).1 (tIW r).2 := by
  unfold f_M_deep at hf
  refine call_of (own := 12) (rk := 1) (cd := kX12_deep) (ls := [some (vR 111)]) (rT := tIW) rfl rfl rfl rfl rfl ?_
  refine run_seg (k := 3) (s' := (5, [some (vR 111)], [], upS σ 111 0 0)) rfl ?_
  refine run_let (fun σ1 => (5, [some (vR 111)], [], σ1)) hf (fun σ1 hf => ?_)
  refine run_seg (k := 1) (s' := (6, [some (vR 111)], [vR 111], σ1)) rfl ?_
  refine run_callN (w := fun a => some (vI a)) (m := 263) (as := [vR 111]) (pc := 9) (ls := [some (vR 111)]) (st' := []) (σ := σ1) hf rfl (fun _ h => (c_M_hasWay h).mono (by decide)) (fun r2 hf => ?_)
  refine run_seg (k := 1) (s' := (if r2 = 0 then (20, [some (vR 111)], [], σ1) else (12, [some (vR 111)], [], σ1))) rfl ?_
  refine run_ite hf (fun _ hf => ?_) (fun _ hf => ?_)
  · refine run_seg (k := 1) (s' := (21, [some (vR 111)], [vI 0], σ1)) rfl ?_
    exact run_ret hf rfl
  · refine run_seg (k := 2) (s' := (14, [some (vR 111)], [vI 0, vR 111], σ1)) rfl ?_
    refine run_callN (w := fun a => some (vI a)) (m := 264) (as := [vR 111, vI 0]) (pc := 17) (ls := [some (vR 111)]) (st' := []) (σ := σ1) hf rfl (fun _ h => (c_M_deepOf h).mono (by decide)) (fun r3 hf => ?_)
    refine run_seg (k := 1) (s' := (21, [some (vR 111)], [vI r3], σ1)) rfl ?_
    exact run_ret hf rfl
/-- BentPennyModel.partOf(II)I -/
def f_M_partOf (p1 : Int) (p2 : Int) (σ : xSt) : Option (Int) :=
  if p1 = σ 113 2 then (if p2 = 0 then (some (σ 122 0))
  else (some (w32 ((σ 122 1) - (σ 122 0)))))
  else (xbR (f_M_sideOf p1 p2 σ) fun r1 =>
  some r1)
theorem c_M_partOf {p1 : Int} {p2 : Int} {σ : xSt} {r : Int} (hf : f_M_partOf p1 p2 σ = some r) : Call (1 + 1) 266 [vR 111, vI p1, vI p2] σ ((tI σ) r).1 ((tI σ) r).2 := by
  unfold f_M_partOf at hf
  refine call_of (own := 12) (rk := 1) (cd := kX12_partOf) (ls := [some (vR 111), some (vI p1), some (vI p2)]) (rT := (tI σ)) rfl rfl rfl rfl rfl ?_
  refine run_seg (k := 6) (s' := (if p1 = σ 113 2 then (10, [some (vR 111), some (vI p1), some (vI p2)], [], σ) else (39, [some (vR 111), some (vI p1), some (vI p2)], [], σ))) rfl ?_
  refine run_ite hf (fun _ hf => ?_) (fun _ hf => ?_)
  · refine run_seg (k := 2) (s' := (if p2 = 0 then (14, [some (vR 111), some (vI p1), some (vI p2)], [], σ) else (23, [some (vR 111), some (vI p1), some (vI p2)], [], σ))) rfl ?_
    refine run_ite hf (fun _ hf => ?_) (fun _ hf => ?_)
    · refine run_seg (k := 5) (s' := (48, [some (vR 111), some (vI p1), some (vI p2)], [vI (σ 122 0)], σ)) rfl ?_
      exact run_ret hf rfl
    · refine run_seg (k := 10) (s' := (48, [some (vR 111), some (vI p1), some (vI p2)], [vI (w32 ((σ 122 1) - (σ 122 0)))], σ)) rfl ?_
      exact run_ret hf rfl
  · refine run_seg (k := 4) (s' := (45, [some (vR 111), some (vI p1), some (vI p2)], [vI p2, vI p1, vR 113], σ)) rfl ?_
    refine run_callN (w := fun a => some (vI a)) (m := 236) (as := [vR 113, vI p1, vI p2]) (pc := 48) (ls := [some (vR 111), some (vI p1), some (vI p2)]) (st' := []) (σ := σ) hf rfl (fun _ h => (c_M_sideOf h).mono (by decide)) (fun r1 hf => ?_)
    exact run_ret hf rfl
/-- BentPennyModel.allOf(I)I -/
def f_M_allOf (p1 : Int) (σ : xSt) : Option (Int) :=
  if p1 = σ 113 2 then (some (σ 122 1))
  else (xbR (f_M_partsOf p1 σ) fun r1 =>
  some r1)
theorem c_M_allOf {p1 : Int} {σ : xSt} {r : Int} (hf : f_M_allOf p1 σ = some r) : Call (1 + 1) 267 [vR 111, vI p1] σ ((tI σ) r).1 ((tI σ) r).2 := by
  unfold f_M_allOf at hf
  refine call_of (own := 12) (rk := 1) (cd := kX12_allOf) (ls := [some (vR 111), some (vI p1)]) (rT := (tI σ)) rfl rfl rfl rfl rfl ?_
  refine run_seg (k := 6) (s' := (if p1 = σ 113 2 then (10, [some (vR 111), some (vI p1)], [], σ) else (19, [some (vR 111), some (vI p1)], [], σ))) rfl ?_
  refine run_ite hf (fun _ hf => ?_) (fun _ hf => ?_)
  · refine run_seg (k := 5) (s' := (27, [some (vR 111), some (vI p1)], [vI (σ 122 1)], σ)) rfl ?_
    exact run_ret hf rfl
  · refine run_seg (k := 3) (s' := (24, [some (vR 111), some (vI p1)], [vI p1, vR 113], σ)) rfl ?_
    refine run_callN (w := fun a => some (vI a)) (m := 235) (as := [vR 113, vI p1]) (pc := 27) (ls := [some (vR 111), some (vI p1)]) (st' := []) (σ := σ) hf rfl (fun _ h => (c_M_partsOf h).mono (by decide)) (fun r1 hf => ?_)
    exact run_ret hf rfl
def f_M_weigh_32 (q_M_weigh : (Int → Int → Int → xSt → Option (xSt))) (l2 : Int) (l4 : Int) (s0 : Int) (σ : xSt) : Option (xSt) :=
  if 0 ≤ s0 ∧ s0 < 8 then (
  if 0 ≤ s0 ∧ s0 < 8 then (
  xlet (upS σ 121 s0.toNat (w64 ((σ 121 s0.toNat) + l2))) fun σ4 =>
  xlet (upS σ4 111 30 (w64 ((σ4 111 30) + (w64 (l2 * l4))))) fun σ5 =>
  some σ5) else none) else none
def f_M_weigh_62 (q_M_weigh : (Int → Int → Int → xSt → Option (xSt))) : Nat → Int → Int → Int → Int → Int → xSt → Option (xSt)
  | 0, _, _, _, _, _, _ => none
  | n + 1, l1, l2, l4, l6, l7, σ =>
    xbR (f_M_sidesOf l6 σ) fun r6 =>
    if l7 < r6 then (xbR (f_M_partOf l6 l7 σ) fun r7 =>
    if 0 < r7 then (xbR (f_M_nextOf l1 l7 σ) fun r8 =>
    xbR (f_M_allOf l6 σ) fun r9 =>
    if r9 = 0 then none else
    xbR (f_M_partOf l6 l7 σ) fun r10 =>
    xbR (q_M_weigh r8 (w64 ((xldiv l2 r9) * r10)) (w32 (l4 + 1)) σ) fun σ11 =>
    xlet (w32 (l7 + 1)) fun x12 =>
    f_M_weigh_62 q_M_weigh n l1 l2 l4 l6 x12 σ11)
    else (xlet (w32 (l7 + 1)) fun x13 =>
    f_M_weigh_62 q_M_weigh n l1 l2 l4 l6 x13 σ))
    else (some σ)
/-- BentPennyModel.weigh(IJI)V -/
def f0_M_weigh (q_M_weigh : (Int → Int → Int → xSt → Option (xSt))) (p1 : Int) (p2 : Int) (p3 : Int) (σ : xSt) : Option (xSt) :=
  xbR (f_M_sortOf p1 σ) fun r1 =>
  if r1 < 2 then (if r1 = 0 then (xbR (f_M_whichOf p1 σ) fun r2 =>
  f_M_weigh_32 q_M_weigh p2 p3 r2 σ)
  else (f_M_weigh_32 q_M_weigh p2 p3 6 σ))
  else (xbR (f_M_whichOf p1 σ) fun r3 =>
  f_M_weigh_62 q_M_weigh 1000000 p1 p2 p3 r3 0 σ)
theorem r_M_weigh_32 {d : Nat} (hd : 2 ≤ d) {q_M_weigh : (Int → Int → Int → xSt → Option (xSt))} (hq_M_weigh : ∀ {p1 : Int} {p2 : Int} {p3 : Int} {σ : xSt} {r : xSt}, q_M_weigh p1 p2 p3 σ = some r → Call d 268 [vR 111, vI p1, vL p2, vI p3] σ (tV r).1 (tV r).2) {l2 : Int} {l4 : Int} {s0 : Int} {g1 : Option xV} {g5 : Option xV} {g6 : Option xV} {g7 : Option xV} {σ : xSt} {r : xSt} (hf : f_M_weigh_32 q_M_weigh l2 l4 s0 σ = some r) : Run d 12 0 kX12_weigh (32, [some (vR 111), g1, some (vL l2), none, some (vI l4), g5, g6, g7], [vI s0, vR 121], σ) (tV r) := by
  unfold f_M_weigh_32 at hf
  refine run_seg (k := 1) (s' := (33, [some (vR 111), g1, some (vL l2), none, some (vI l4), g5, g6, g7], [vI s0, vR 121, vI s0, vR 121], σ)) rfl ?_
  refine run_guard (s' := (34, [some (vR 111), g1, some (vL l2), none, some (vI l4), g5, g6, g7], [vL (σ 121 s0.toNat), vI s0, vR 121], σ)) hf rfl (fun hf => ?_)
  refine run_seg (k := 2) (s' := (36, [some (vR 111), g1, some (vL l2), none, some (vI l4), g5, g6, g7], [vL (w64 ((σ 121 s0.toNat) + l2)), vI s0, vR 121], σ)) rfl ?_
  refine run_guard (s' := (37, [some (vR 111), g1, some (vL l2), none, some (vI l4), g5, g6, g7], [], upS σ 121 s0.toNat (w64 ((σ 121 s0.toNat) + l2)))) hf rfl (fun hf => ?_)
  refine run_let (fun σ4 => (37, [some (vR 111), g1, some (vL l2), none, some (vI l4), g5, g6, g7], [], σ4)) hf (fun σ4 hf => ?_)
  refine run_seg (k := 9) (s' := (51, [some (vR 111), g1, some (vL l2), none, some (vI l4), g5, g6, g7], [], upS σ4 111 30 (w64 ((σ4 111 30) + (w64 (l2 * l4)))))) rfl ?_
  refine run_let (fun σ5 => (51, [some (vR 111), g1, some (vL l2), none, some (vI l4), g5, g6, g7], [], σ5)) hf (fun σ5 hf => ?_)
  exact run_ret hf rfl
theorem r_M_weigh_62 {d : Nat} (hd : 2 ≤ d) {q_M_weigh : (Int → Int → Int → xSt → Option (xSt))} (hq_M_weigh : ∀ {p1 : Int} {p2 : Int} {p3 : Int} {σ : xSt} {r : xSt}, q_M_weigh p1 p2 p3 σ = some r → Call d 268 [vR 111, vI p1, vL p2, vI p3] σ (tV r).1 (tV r).2) : ∀ (n : Nat) {l1 : Int} {l2 : Int} {l4 : Int} {l6 : Int} {l7 : Int} {g5 : Option xV} {σ : xSt} {r : xSt}, f_M_weigh_62 q_M_weigh n l1 l2 l4 l6 l7 σ = some r → Run d 12 0 kX12_weigh (62, [some (vR 111), some (vI l1), some (vL l2), none, some (vI l4), g5, some (vI l6), some (vI l7)], [], σ) (tV r) := by
  intro n
  induction n with
  | zero =>
    intro _ _ _ _ _ _ _ _ h
    exact nomatch (show (none : Option (xSt)) = some _ from h)
  | succ n ih =>
    intro l1 l2 l4 l6 l7 g5 σ r hf
    unfold f_M_weigh_62 at hf
    refine run_seg (k := 4) (s' := (70, [some (vR 111), some (vI l1), some (vL l2), none, some (vI l4), g5, some (vI l6), some (vI l7)], [vI l6, vR 113, vI l7], σ)) rfl ?_
    refine run_callN (w := fun a => some (vI a)) (m := 234) (as := [vR 113, vI l6]) (pc := 73) (ls := [some (vR 111), some (vI l1), some (vL l2), none, some (vI l4), g5, some (vI l6), some (vI l7)]) (st' := [vI l7]) (σ := σ) hf rfl (fun _ h => (c_M_sidesOf h).mono (Nat.le_trans (by decide) hd)) (fun r6 hf => ?_)
    refine run_seg (k := 1) (s' := (if l7 < r6 then (76, [some (vR 111), some (vI l1), some (vL l2), none, some (vI l4), g5, some (vI l6), some (vI l7)], [], σ) else (127, [some (vR 111), some (vI l1), some (vL l2), none, some (vI l4), g5, some (vI l6), some (vI l7)], [], σ))) rfl ?_
    refine run_ite hf (fun _ hf => ?_) (fun _ hf => ?_)
    · refine run_seg (k := 3) (s' := (81, [some (vR 111), some (vI l1), some (vL l2), none, some (vI l4), g5, some (vI l6), some (vI l7)], [vI l7, vI l6, vR 111], σ)) rfl ?_
      refine run_callN (w := fun a => some (vI a)) (m := 266) (as := [vR 111, vI l6, vI l7]) (pc := 84) (ls := [some (vR 111), some (vI l1), some (vL l2), none, some (vI l4), g5, some (vI l6), some (vI l7)]) (st' := []) (σ := σ) hf rfl (fun _ h => (c_M_partOf h).mono (Nat.le_trans (by decide) hd)) (fun r7 hf => ?_)
      refine run_seg (k := 1) (s' := (if 0 < r7 then (87, [some (vR 111), some (vI l1), some (vL l2), none, some (vI l4), g5, some (vI l6), some (vI l7)], [], σ) else (121, [some (vR 111), some (vI l1), some (vL l2), none, some (vI l4), g5, some (vI l6), some (vI l7)], [], σ))) rfl ?_
      refine run_ite hf (fun _ hf => ?_) (fun _ hf => ?_)
      · refine run_seg (k := 4) (s' := (92, [some (vR 111), some (vI l1), some (vL l2), none, some (vI l4), g5, some (vI l6), some (vI l7)], [vI l7, vI l1, vR 111, vR 111], σ)) rfl ?_
        refine run_callN (w := fun a => some (vI a)) (m := 259) (as := [vR 111, vI l1, vI l7]) (pc := 95) (ls := [some (vR 111), some (vI l1), some (vL l2), none, some (vI l4), g5, some (vI l6), some (vI l7)]) (st' := [vR 111]) (σ := σ) hf rfl (fun _ h => (c_M_nextOf h).mono (Nat.le_trans (by decide) hd)) (fun r8 hf => ?_)
        refine run_seg (k := 3) (s' := (99, [some (vR 111), some (vI l1), some (vL l2), none, some (vI l4), g5, some (vI l6), some (vI l7)], [vI l6, vR 111, vL l2, vI r8, vR 111], σ)) rfl ?_
        refine run_callN (w := fun a => some (vI a)) (m := 267) (as := [vR 111, vI l6]) (pc := 102) (ls := [some (vR 111), some (vI l1), some (vL l2), none, some (vI l4), g5, some (vI l6), some (vI l7)]) (st' := [vL l2, vI r8, vR 111]) (σ := σ) hf rfl (fun _ h => (c_M_allOf h).mono (Nat.le_trans (by decide) hd)) (fun r9 hf => ?_)
        refine run_seg (k := 1) (s' := (103, [some (vR 111), some (vI l1), some (vL l2), none, some (vI l4), g5, some (vI l6), some (vI l7)], [vL r9, vL l2, vI r8, vR 111], σ)) rfl ?_
        refine run_gdiv (s' := (104, [some (vR 111), some (vI l1), some (vL l2), none, some (vI l4), g5, some (vI l6), some (vI l7)], [vL (xldiv l2 r9), vI r8, vR 111], σ)) hf rfl (fun hf => ?_)
        refine run_seg (k := 3) (s' := (109, [some (vR 111), some (vI l1), some (vL l2), none, some (vI l4), g5, some (vI l6), some (vI l7)], [vI l7, vI l6, vR 111, vL (xldiv l2 r9), vI r8, vR 111], σ)) rfl ?_
        refine run_callN (w := fun a => some (vI a)) (m := 266) (as := [vR 111, vI l6, vI l7]) (pc := 112) (ls := [some (vR 111), some (vI l1), some (vL l2), none, some (vI l4), g5, some (vI l6), some (vI l7)]) (st' := [vL (xldiv l2 r9), vI r8, vR 111]) (σ := σ) hf rfl (fun _ h => (c_M_partOf h).mono (Nat.le_trans (by decide) hd)) (fun r10 hf => ?_)
        refine run_seg (k := 5) (s' := (118, [some (vR 111), some (vI l1), some (vL l2), none, some (vI l4), g5, some (vI l6), some (vI l7)], [vI (w32 (l4 + 1)), vL (w64 ((xldiv l2 r9) * r10)), vI r8, vR 111], σ)) rfl ?_
        refine run_callV (m := 268) (as := [vR 111, vI r8, vL (w64 ((xldiv l2 r9) * r10)), vI (w32 (l4 + 1))]) (pc := 121) (ls := [some (vR 111), some (vI l1), some (vL l2), none, some (vI l4), g5, some (vI l6), some (vI l7)]) (st' := []) (σ := σ) hf rfl (fun _ h => (hq_M_weigh h)) (fun σ11 hf => ?_)
        refine run_seg (k := 1) (s' := (124, [some (vR 111), some (vI l1), some (vL l2), none, some (vI l4), g5, some (vI l6), some (vI (w32 (l7 + 1)))], [], σ11)) rfl ?_
        refine run_let (fun x12 => (124, [some (vR 111), some (vI l1), some (vL l2), none, some (vI l4), g5, some (vI l6), some (vI x12)], [], σ11)) hf (fun x12 hf => ?_)
        refine run_seg (k := 1) (s' := (62, [some (vR 111), some (vI l1), some (vL l2), none, some (vI l4), g5, some (vI l6), some (vI x12)], [], σ11)) rfl ?_
        exact ih hf
      · refine run_seg (k := 1) (s' := (124, [some (vR 111), some (vI l1), some (vL l2), none, some (vI l4), g5, some (vI l6), some (vI (w32 (l7 + 1)))], [], σ)) rfl ?_
        refine run_let (fun x13 => (124, [some (vR 111), some (vI l1), some (vL l2), none, some (vI l4), g5, some (vI l6), some (vI x13)], [], σ)) hf (fun x13 hf => ?_)
        refine run_seg (k := 1) (s' := (62, [some (vR 111), some (vI l1), some (vL l2), none, some (vI l4), g5, some (vI l6), some (vI x13)], [], σ)) rfl ?_
        exact ih hf
    · exact run_ret hf rfl
theorem c0_M_weigh {d : Nat} (hd : 2 ≤ d) {q_M_weigh : (Int → Int → Int → xSt → Option (xSt))} (hq_M_weigh : ∀ {p1 : Int} {p2 : Int} {p3 : Int} {σ : xSt} {r : xSt}, q_M_weigh p1 p2 p3 σ = some r → Call d 268 [vR 111, vI p1, vL p2, vI p3] σ (tV r).1 (tV r).2) {p1 : Int} {p2 : Int} {p3 : Int} {σ : xSt} {r : xSt} (hf : f0_M_weigh q_M_weigh p1 p2 p3 σ = some r) : Call (d + 1) 268 [vR 111, vI p1, vL p2, vI p3] σ (tV r).1 (tV r).2 := by
  unfold f0_M_weigh at hf
  refine call_of (own := 12) (rk := 0) (cd := kX12_weigh) (ls := [some (vR 111), some (vI p1), some (vL p2), none, some (vI p3), none, none, none]) (rT := tV) rfl rfl rfl rfl rfl ?_
  refine run_seg (k := 2) (s' := (2, [some (vR 111), some (vI p1), some (vL p2), none, some (vI p3), none, none, none], [vI p1, vR 111], σ)) rfl ?_
  refine run_callN (w := fun a => some (vI a)) (m := 257) (as := [vR 111, vI p1]) (pc := 5) (ls := [some (vR 111), some (vI p1), some (vL p2), none, some (vI p3), none, none, none]) (st' := []) (σ := σ) hf rfl (fun _ h => (c_M_sortOf h).mono (Nat.le_trans (by decide) hd)) (fun r1 hf => ?_)
  refine run_seg (k := 4) (s' := (if r1 < 2 then (13, [some (vR 111), some (vI p1), some (vL p2), none, some (vI p3), some (vI r1), none, none], [], σ) else (52, [some (vR 111), some (vI p1), some (vL p2), none, some (vI p3), some (vI r1), none, none], [], σ))) rfl ?_
  refine run_ite hf (fun _ hf => ?_) (fun _ hf => ?_)
  · refine run_seg (k := 4) (s' := (if r1 = 0 then (22, [some (vR 111), some (vI p1), some (vL p2), none, some (vI p3), some (vI r1), none, none], [vR 121], σ) else (30, [some (vR 111), some (vI p1), some (vL p2), none, some (vI p3), some (vI r1), none, none], [vR 121], σ))) rfl ?_
    refine run_ite hf (fun _ hf => ?_) (fun _ hf => ?_)
    · refine run_seg (k := 2) (s' := (24, [some (vR 111), some (vI p1), some (vL p2), none, some (vI p3), some (vI r1), none, none], [vI p1, vR 111, vR 121], σ)) rfl ?_
      refine run_callN (w := fun a => some (vI a)) (m := 258) (as := [vR 111, vI p1]) (pc := 27) (ls := [some (vR 111), some (vI p1), some (vL p2), none, some (vI p3), some (vI r1), none, none]) (st' := [vR 121]) (σ := σ) hf rfl (fun _ h => (c_M_whichOf h).mono (Nat.le_trans (by decide) hd)) (fun r2 hf => ?_)
      refine run_seg (k := 1) (s' := (32, [some (vR 111), some (vI p1), some (vL p2), none, some (vI p3), some (vI r1), none, none], [vI r2, vR 121], σ)) rfl ?_
      exact r_M_weigh_32 hd hq_M_weigh hf
    · refine run_seg (k := 1) (s' := (32, [some (vR 111), some (vI p1), some (vL p2), none, some (vI p3), some (vI r1), none, none], [vI 6, vR 121], σ)) rfl ?_
      exact r_M_weigh_32 hd hq_M_weigh hf
  · refine run_seg (k := 2) (s' := (54, [some (vR 111), some (vI p1), some (vL p2), none, some (vI p3), some (vI r1), none, none], [vI p1, vR 111], σ)) rfl ?_
    refine run_callN (w := fun a => some (vI a)) (m := 258) (as := [vR 111, vI p1]) (pc := 57) (ls := [some (vR 111), some (vI p1), some (vL p2), none, some (vI p3), some (vI r1), none, none]) (st' := []) (σ := σ) hf rfl (fun _ h => (c_M_whichOf h).mono (Nat.le_trans (by decide) hd)) (fun r3 hf => ?_)
    refine run_seg (k := 3) (s' := (62, [some (vR 111), some (vI p1), some (vL p2), none, some (vI p3), some (vI r1), some (vI r3), some (vI 0)], [], σ)) rfl ?_
    exact r_M_weigh_62 hd hq_M_weigh 1000000 hf
def g_M_weigh : Nat → (Int → Int → Int → xSt → Option (xSt))
  | 0 => ((fun _ _ _ _ => none))
  | n + 1 => ((fun p1 p2 p3 σ => f0_M_weigh (g_M_weigh n) p1 p2 p3 σ))
def f_M_weigh (n : Nat) (p1 : Int) (p2 : Int) (p3 : Int) (σ : xSt) : Option (xSt) := g_M_weigh n p1 p2 p3 σ
theorem hg_M_weigh : ∀ n, (∀ {p1 : Int} {p2 : Int} {p3 : Int} {σ : xSt} {r : xSt}, f_M_weigh n p1 p2 p3 σ = some r → Call (2 + n) 268 [vR 111, vI p1, vL p2, vI p3] σ (tV r).1 (tV r).2) := by
  intro n
  induction n with
  | zero => exact fun h => nomatch (show (none : Option (xSt)) = some _ from h)
  | succ n ih => exact fun h => c0_M_weigh (Nat.le_add_right 2 n) (fun h => ih h) h
theorem c_M_weigh {p1 : Int} {p2 : Int} {p3 : Int} {σ : xSt} {r : xSt} (hf : f_M_weigh 60 p1 p2 p3 σ = some r) : Call 62 268 [vR 111, vI p1, vL p2, vI p3] σ (tV r).1 (tV r).2 := (hg_M_weigh 60) hf
def f_M_isIn__24 (q_M_isIn_ : (Int → Int → xSt → Option (Int))) : Nat → Int → Int → Int → xSt → Option (Int)
  | 0, _, _, _, _ => none
  | n + 1, l1, l2, l3, σ =>
    xbR (f_M_whichOf l1 σ) fun r3 =>
    xbR (f_M_sidesOf r3 σ) fun r4 =>
    if l3 < r4 then (xbR (f_M_nextOf l1 l3 σ) fun r5 =>
    xbR (q_M_isIn_ r5 l2 σ) fun r6 =>
    if r6 = 0 then (xlet (w32 (l3 + 1)) fun x7 =>
    f_M_isIn__24 q_M_isIn_ n l1 l2 x7 σ)
    else (some 1))
    else (some 0)
/-- BentPennyModel.isIn(II)Z -/
def f0_M_isIn_ (q_M_isIn_ : (Int → Int → xSt → Option (Int))) (p1 : Int) (p2 : Int) (σ : xSt) : Option (Int) :=
  xbR (f_M_sortOf p1 σ) fun r1 =>
  if r1 = 2 then (xbR (f_M_whichOf p1 σ) fun r2 =>
  if r2 = p2 then (some 1)
  else (f_M_isIn__24 q_M_isIn_ 1000000 p1 p2 0 σ))
  else (some 0)
theorem r_M_isIn__24 {d : Nat} (hd : 1 ≤ d) {q_M_isIn_ : (Int → Int → xSt → Option (Int))} (hq_M_isIn_ : ∀ {p1 : Int} {p2 : Int} {σ : xSt} {r : Int}, q_M_isIn_ p1 p2 σ = some r → Call d 269 [vR 111, vI p1, vI p2] σ ((tI σ) r).1 ((tI σ) r).2) : ∀ (n : Nat) {l1 : Int} {l2 : Int} {l3 : Int} {σ : xSt} {r : Int}, f_M_isIn__24 q_M_isIn_ n l1 l2 l3 σ = some r → Run d 12 2 kX12_isIn_ (24, [some (vR 111), some (vI l1), some (vI l2), some (vI l3)], [], σ) ((tI σ) r) := by
  intro n
  induction n with
  | zero =>
    intro _ _ _ _ _ h
    exact nomatch (show (none : Option (Int)) = some _ from h)
  | succ n ih =>
    intro l1 l2 l3 σ r hf
    unfold f_M_isIn__24 at hf
    refine run_seg (k := 5) (s' := (31, [some (vR 111), some (vI l1), some (vI l2), some (vI l3)], [vI l1, vR 111, vR 113, vI l3], σ)) rfl ?_
    refine run_callN (w := fun a => some (vI a)) (m := 258) (as := [vR 111, vI l1]) (pc := 34) (ls := [some (vR 111), some (vI l1), some (vI l2), some (vI l3)]) (st' := [vR 113, vI l3]) (σ := σ) hf rfl (fun _ h => (c_M_whichOf h).mono (Nat.le_trans (by decide) hd)) (fun r3 hf => ?_)
    refine run_callN (w := fun a => some (vI a)) (m := 234) (as := [vR 113, vI r3]) (pc := 37) (ls := [some (vR 111), some (vI l1), some (vI l2), some (vI l3)]) (st' := [vI l3]) (σ := σ) hf rfl (fun _ h => (c_M_sidesOf h).mono (Nat.le_trans (by decide) hd)) (fun r4 hf => ?_)
    refine run_seg (k := 1) (s' := (if l3 < r4 then (40, [some (vR 111), some (vI l1), some (vI l2), some (vI l3)], [], σ) else (62, [some (vR 111), some (vI l1), some (vI l2), some (vI l3)], [], σ))) rfl ?_
    refine run_ite hf (fun _ hf => ?_) (fun _ hf => ?_)
    · refine run_seg (k := 4) (s' := (44, [some (vR 111), some (vI l1), some (vI l2), some (vI l3)], [vI l3, vI l1, vR 111, vR 111], σ)) rfl ?_
      refine run_callN (w := fun a => some (vI a)) (m := 259) (as := [vR 111, vI l1, vI l3]) (pc := 47) (ls := [some (vR 111), some (vI l1), some (vI l2), some (vI l3)]) (st' := [vR 111]) (σ := σ) hf rfl (fun _ h => (c_M_nextOf h).mono (Nat.le_trans (by decide) hd)) (fun r5 hf => ?_)
      refine run_seg (k := 1) (s' := (48, [some (vR 111), some (vI l1), some (vI l2), some (vI l3)], [vI l2, vI r5, vR 111], σ)) rfl ?_
      refine run_callN (w := fun a => some (vI a)) (m := 269) (as := [vR 111, vI r5, vI l2]) (pc := 51) (ls := [some (vR 111), some (vI l1), some (vI l2), some (vI l3)]) (st' := []) (σ := σ) hf rfl (fun _ h => (hq_M_isIn_ h)) (fun r6 hf => ?_)
      refine run_seg (k := 1) (s' := (if r6 = 0 then (56, [some (vR 111), some (vI l1), some (vI l2), some (vI l3)], [], σ) else (54, [some (vR 111), some (vI l1), some (vI l2), some (vI l3)], [], σ))) rfl ?_
      refine run_ite hf (fun _ hf => ?_) (fun _ hf => ?_)
      · refine run_seg (k := 1) (s' := (59, [some (vR 111), some (vI l1), some (vI l2), some (vI (w32 (l3 + 1)))], [], σ)) rfl ?_
        refine run_let (fun x7 => (59, [some (vR 111), some (vI l1), some (vI l2), some (vI x7)], [], σ)) hf (fun x7 hf => ?_)
        refine run_seg (k := 1) (s' := (24, [some (vR 111), some (vI l1), some (vI l2), some (vI x7)], [], σ)) rfl ?_
        exact ih hf
      · refine run_seg (k := 1) (s' := (55, [some (vR 111), some (vI l1), some (vI l2), some (vI l3)], [vI 1], σ)) rfl ?_
        exact run_ret hf rfl
    · refine run_seg (k := 1) (s' := (63, [some (vR 111), some (vI l1), some (vI l2), some (vI l3)], [vI 0], σ)) rfl ?_
      exact run_ret hf rfl
theorem c0_M_isIn_ {d : Nat} (hd : 1 ≤ d) {q_M_isIn_ : (Int → Int → xSt → Option (Int))} (hq_M_isIn_ : ∀ {p1 : Int} {p2 : Int} {σ : xSt} {r : Int}, q_M_isIn_ p1 p2 σ = some r → Call d 269 [vR 111, vI p1, vI p2] σ ((tI σ) r).1 ((tI σ) r).2) {p1 : Int} {p2 : Int} {σ : xSt} {r : Int} (hf : f0_M_isIn_ q_M_isIn_ p1 p2 σ = some r) : Call (d + 1) 269 [vR 111, vI p1, vI p2] σ ((tI σ) r).1 ((tI σ) r).2 := by
  unfold f0_M_isIn_ at hf
  refine call_of (own := 12) (rk := 2) (cd := kX12_isIn_) (ls := [some (vR 111), some (vI p1), some (vI p2), none]) (rT := (tI σ)) rfl rfl rfl rfl rfl ?_
  refine run_seg (k := 2) (s' := (2, [some (vR 111), some (vI p1), some (vI p2), none], [vI p1, vR 111], σ)) rfl ?_
  refine run_callN (w := fun a => some (vI a)) (m := 257) (as := [vR 111, vI p1]) (pc := 5) (ls := [some (vR 111), some (vI p1), some (vI p2), none]) (st' := []) (σ := σ) hf rfl (fun _ h => (c_M_sortOf h).mono (Nat.le_trans (by decide) hd)) (fun r1 hf => ?_)
  refine run_seg (k := 2) (s' := (if r1 = 2 then (11, [some (vR 111), some (vI p1), some (vI p2), none], [], σ) else (9, [some (vR 111), some (vI p1), some (vI p2), none], [], σ))) rfl ?_
  refine run_ite hf (fun _ hf => ?_) (fun _ hf => ?_)
  · refine run_seg (k := 2) (s' := (13, [some (vR 111), some (vI p1), some (vI p2), none], [vI p1, vR 111], σ)) rfl ?_
    refine run_callN (w := fun a => some (vI a)) (m := 258) (as := [vR 111, vI p1]) (pc := 16) (ls := [some (vR 111), some (vI p1), some (vI p2), none]) (st' := []) (σ := σ) hf rfl (fun _ h => (c_M_whichOf h).mono (Nat.le_trans (by decide) hd)) (fun r2 hf => ?_)
    refine run_seg (k := 2) (s' := (if r2 = p2 then (20, [some (vR 111), some (vI p1), some (vI p2), none], [], σ) else (22, [some (vR 111), some (vI p1), some (vI p2), none], [], σ))) rfl ?_
    refine run_ite hf (fun _ hf => ?_) (fun _ hf => ?_)
    · refine run_seg (k := 1) (s' := (21, [some (vR 111), some (vI p1), some (vI p2), none], [vI 1], σ)) rfl ?_
      exact run_ret hf rfl
    · refine run_seg (k := 2) (s' := (24, [some (vR 111), some (vI p1), some (vI p2), some (vI 0)], [], σ)) rfl ?_
      exact r_M_isIn__24 hd hq_M_isIn_ 1000000 hf
  · refine run_seg (k := 1) (s' := (10, [some (vR 111), some (vI p1), some (vI p2), none], [vI 0], σ)) rfl ?_
    exact run_ret hf rfl
def g_M_isIn_ : Nat → (Int → Int → xSt → Option (Int))
  | 0 => ((fun _ _ _ => none))
  | n + 1 => ((fun p1 p2 σ => f0_M_isIn_ (g_M_isIn_ n) p1 p2 σ))
def f_M_isIn_ (n : Nat) (p1 : Int) (p2 : Int) (σ : xSt) : Option (Int) := g_M_isIn_ n p1 p2 σ
theorem hg_M_isIn_ : ∀ n, (∀ {p1 : Int} {p2 : Int} {σ : xSt} {r : Int}, f_M_isIn_ n p1 p2 σ = some r → Call (1 + n) 269 [vR 111, vI p1, vI p2] σ ((tI σ) r).1 ((tI σ) r).2) := by
  intro n
  induction n with
  | zero => exact fun h => nomatch (show (none : Option (Int)) = some _ from h)
  | succ n ih => exact fun h => c0_M_isIn_ (Nat.le_add_right 1 n) (fun h => ih h) h
theorem c_M_isIn_ {p1 : Int} {p2 : Int} {σ : xSt} {r : Int} (hf : f_M_isIn_ 60 p1 p2 σ = some r) : Call 61 269 [vR 111, vI p1, vI p2] σ ((tI σ) r).1 ((tI σ) r).2 := (hg_M_isIn_ 60) hf
def f_M_layWeights_32 (k21 : (Int → xSt → Option (Int × xSt))) : Nat → Int → Int → xSt → Option (Int × xSt)
  | 0, _, _, _ => none
  | n + 1, l3, l4, σ =>
    if l4 < 6 then (xbR (f_M_isIn_ 60 0 l3 σ) fun r6 =>
    if r6 = 0 then (xlet (w32 (l3 + 1)) fun x7 =>
    k21 x7 σ)
    else (xbR (f_M_allOf l3 σ) fun r8 =>
    xlet (upS σ 111 29 (w64 ((σ 111 29) * r8))) fun σ9 =>
    xlet (w32 (l4 + 1)) fun x10 =>
    f_M_layWeights_32 k21 n l3 x10 σ9))
    else (xlet (w32 (l3 + 1)) fun x11 =>
    k21 x11 σ)
def f_M_layWeights_82 : Nat → Int → xSt → Option (Int × xSt)
  | 0, _, _ => none
  | n + 1, l3, σ =>
    if 6 < l3 then (xbR (f_M_weigh 60 0 (σ 111 29) 0 σ) fun σ12 =>
    if xlc (σ12 121 6) (σ12 111 29) < 0 then (some (1, σ12))
    else (some (0, σ12)))
    else (if 0 ≤ l3 ∧ l3 < 8 then (
    xlet (upS σ 121 l3.toNat 0) fun σ13 =>
    xlet (w32 (l3 + 1)) fun x14 =>
    f_M_layWeights_82 n x14 σ13) else none)
def f_M_layWeights_21 : Nat → Int → xSt → Option (Int × xSt)
  | 0, _, _ => none
  | n + 1, l3, σ =>
    xbR (f_M_things σ) fun r4 =>
    if l3 < r4 then (f_M_layWeights_32 (fun z0 sz => f_M_layWeights_21 n z0 sz) 1000000 l3 0 σ)
    else (xlet (upS σ 111 30 0) fun σ5 =>
    f_M_layWeights_82 1000000 0 σ5)
/-- BentPennyModel.layWeights(II)Z -/
def f_M_layWeights (p1 : Int) (p2 : Int) (σ : xSt) : Option (Int × xSt) :=
  xlet (upS σ 122 0 p1) fun σ1 =>
  xlet (upS σ1 122 1 p2) fun σ2 =>
  xlet (upS σ2 111 29 1) fun σ3 =>
  f_M_layWeights_21 1000000 0 σ3
theorem r_M_layWeights_32 {k21 : (Int → xSt → Option (Int × xSt))} (hk21 : ∀ {l3 : Int} {g1 : Option xV} {g2 : Option xV} {g4 : Option xV} {σ : xSt} {r : Int × xSt}, k21 l3 σ = some r → Run 62 12 2 kX12_layWeights (21, [some (vR 111), g1, g2, some (vI l3), g4], [], σ) (tIW r)) : ∀ (n : Nat) {l3 : Int} {l4 : Int} {g1 : Option xV} {g2 : Option xV} {σ : xSt} {r : Int × xSt}, f_M_layWeights_32 k21 n l3 l4 σ = some r → Run 62 12 2 kX12_layWeights (32, [some (vR 111), g1, g2, some (vI l3), some (vI l4)], [], σ) (tIW r) := by
  intro n
  induction n with
  | zero =>
    intro _ _ _ _ _ _ h
    exact nomatch (show (none : Option (Int × xSt)) = some _ from h)
  | succ n ih =>
    intro l3 l4 g1 g2 σ r hf
    unfold f_M_layWeights_32 at hf
    refine run_seg (k := 3) (s' := (if l4 < 6 then (39, [some (vR 111), g1, g2, some (vI l3), some (vI l4)], [], σ) else (69, [some (vR 111), g1, g2, some (vI l3), some (vI l4)], [], σ))) rfl ?_
    refine run_ite hf (fun _ hf => ?_) (fun _ hf => ?_)
    · refine run_seg (k := 3) (s' := (42, [some (vR 111), g1, g2, some (vI l3), some (vI l4)], [vI l3, vI 0, vR 111], σ)) rfl ?_
      refine run_callN (w := fun a => some (vI a)) (m := 269) (as := [vR 111, vI 0, vI l3]) (pc := 45) (ls := [some (vR 111), g1, g2, some (vI l3), some (vI l4)]) (st' := []) (σ := σ) hf rfl (fun _ h => (c_M_isIn_ h).mono (by decide)) (fun r6 hf => ?_)
      refine run_seg (k := 1) (s' := (if r6 = 0 then (69, [some (vR 111), g1, g2, some (vI l3), some (vI l4)], [], σ) else (48, [some (vR 111), g1, g2, some (vI l3), some (vI l4)], [], σ))) rfl ?_
      refine run_ite hf (fun _ hf => ?_) (fun _ hf => ?_)
      · refine run_seg (k := 1) (s' := (72, [some (vR 111), g1, g2, some (vI (w32 (l3 + 1))), some (vI l4)], [], σ)) rfl ?_
        refine run_let (fun x7 => (72, [some (vR 111), g1, g2, some (vI x7), some (vI l4)], [], σ)) hf (fun x7 hf => ?_)
        refine run_seg (k := 1) (s' := (21, [some (vR 111), g1, g2, some (vI x7), some (vI l4)], [], σ)) rfl ?_
        exact hk21 hf
      · refine run_seg (k := 5) (s' := (55, [some (vR 111), g1, g2, some (vI l3), some (vI l4)], [vI l3, vR 111, vL (σ 111 29), vR 111], σ)) rfl ?_
        refine run_callN (w := fun a => some (vI a)) (m := 267) (as := [vR 111, vI l3]) (pc := 58) (ls := [some (vR 111), g1, g2, some (vI l3), some (vI l4)]) (st' := [vL (σ 111 29), vR 111]) (σ := σ) hf rfl (fun _ h => (c_M_allOf h).mono (by decide)) (fun r8 hf => ?_)
        refine run_seg (k := 3) (s' := (63, [some (vR 111), g1, g2, some (vI l3), some (vI l4)], [], upS σ 111 29 (w64 ((σ 111 29) * r8)))) rfl ?_
        refine run_let (fun σ9 => (63, [some (vR 111), g1, g2, some (vI l3), some (vI l4)], [], σ9)) hf (fun σ9 hf => ?_)
        refine run_seg (k := 1) (s' := (66, [some (vR 111), g1, g2, some (vI l3), some (vI (w32 (l4 + 1)))], [], σ9)) rfl ?_
        refine run_let (fun x10 => (66, [some (vR 111), g1, g2, some (vI l3), some (vI x10)], [], σ9)) hf (fun x10 hf => ?_)
        refine run_seg (k := 1) (s' := (32, [some (vR 111), g1, g2, some (vI l3), some (vI x10)], [], σ9)) rfl ?_
        exact ih hf
    · refine run_seg (k := 1) (s' := (72, [some (vR 111), g1, g2, some (vI (w32 (l3 + 1))), some (vI l4)], [], σ)) rfl ?_
      refine run_let (fun x11 => (72, [some (vR 111), g1, g2, some (vI x11), some (vI l4)], [], σ)) hf (fun x11 hf => ?_)
      refine run_seg (k := 1) (s' := (21, [some (vR 111), g1, g2, some (vI x11), some (vI l4)], [], σ)) rfl ?_
      exact hk21 hf
theorem r_M_layWeights_82 : ∀ (n : Nat) {l3 : Int} {g1 : Option xV} {g2 : Option xV} {g4 : Option xV} {σ : xSt} {r : Int × xSt}, f_M_layWeights_82 n l3 σ = some r → Run 62 12 2 kX12_layWeights (82, [some (vR 111), g1, g2, some (vI l3), g4], [], σ) (tIW r) := by
  intro n
  induction n with
  | zero =>
    intro _ _ _ _ _ _ h
    exact nomatch (show (none : Option (Int × xSt)) = some _ from h)
  | succ n ih =>
    intro l3 g1 g2 g4 σ r hf
    unfold f_M_layWeights_82 at hf
    refine run_seg (k := 3) (s' := (if 6 < l3 then (101, [some (vR 111), g1, g2, some (vI l3), g4], [], σ) else (88, [some (vR 111), g1, g2, some (vI l3), g4], [], σ))) rfl ?_
    refine run_ite hf (fun _ hf => ?_) (fun _ hf => ?_)
    · refine run_seg (k := 5) (s' := (108, [some (vR 111), g1, g2, some (vI l3), g4], [vI 0, vL (σ 111 29), vI 0, vR 111], σ)) rfl ?_
      refine run_callV (m := 268) (as := [vR 111, vI 0, vL (σ 111 29), vI 0]) (pc := 111) (ls := [some (vR 111), g1, g2, some (vI l3), g4]) (st' := []) (σ := σ) hf rfl (fun _ h => (c_M_weigh h).mono (by decide)) (fun σ12 hf => ?_)
      refine run_seg (k := 8) (s' := (if xlc (σ12 121 6) (σ12 111 29) < 0 then (126, [some (vR 111), g1, g2, some (vI l3), g4], [], σ12) else (130, [some (vR 111), g1, g2, some (vI l3), g4], [], σ12))) rfl ?_
      refine run_ite hf (fun _ hf => ?_) (fun _ hf => ?_)
      · refine run_seg (k := 2) (s' := (131, [some (vR 111), g1, g2, some (vI l3), g4], [vI 1], σ12)) rfl ?_
        exact run_ret hf rfl
      · refine run_seg (k := 1) (s' := (131, [some (vR 111), g1, g2, some (vI l3), g4], [vI 0], σ12)) rfl ?_
        exact run_ret hf rfl
    · refine run_seg (k := 4) (s' := (94, [some (vR 111), g1, g2, some (vI l3), g4], [vL 0, vI l3, vR 121], σ)) rfl ?_
      refine run_guard (s' := (95, [some (vR 111), g1, g2, some (vI l3), g4], [], upS σ 121 l3.toNat 0)) hf rfl (fun hf => ?_)
      refine run_let (fun σ13 => (95, [some (vR 111), g1, g2, some (vI l3), g4], [], σ13)) hf (fun σ13 hf => ?_)
      refine run_seg (k := 1) (s' := (98, [some (vR 111), g1, g2, some (vI (w32 (l3 + 1))), g4], [], σ13)) rfl ?_
      refine run_let (fun x14 => (98, [some (vR 111), g1, g2, some (vI x14), g4], [], σ13)) hf (fun x14 hf => ?_)
      refine run_seg (k := 1) (s' := (82, [some (vR 111), g1, g2, some (vI x14), g4], [], σ13)) rfl ?_
      exact ih hf
theorem r_M_layWeights_21 : ∀ (n : Nat) {l3 : Int} {g1 : Option xV} {g2 : Option xV} {g4 : Option xV} {σ : xSt} {r : Int × xSt}, f_M_layWeights_21 n l3 σ = some r → Run 62 12 2 kX12_layWeights (21, [some (vR 111), g1, g2, some (vI l3), g4], [], σ) (tIW r) := by
  intro n
  induction n with
  | zero =>
    intro _ _ _ _ _ _ h
    exact nomatch (show (none : Option (Int × xSt)) = some _ from h)
  | succ n ih =>
    intro l3 g1 g2 g4 σ r hf
    unfold f_M_layWeights_21 at hf
    refine run_seg (k := 2) (s' := (23, [some (vR 111), g1, g2, some (vI l3), g4], [vR 111, vI l3], σ)) rfl ?_
    refine run_callN (w := fun a => some (vI a)) (m := 245) (as := [vR 111]) (pc := 26) (ls := [some (vR 111), g1, g2, some (vI l3), g4]) (st' := [vI l3]) (σ := σ) hf rfl (fun _ h => (c_M_things h).mono (by decide)) (fun r4 hf => ?_)
    refine run_seg (k := 1) (s' := (if l3 < r4 then (29, [some (vR 111), g1, g2, some (vI l3), g4], [], σ) else (75, [some (vR 111), g1, g2, some (vI l3), g4], [], σ))) rfl ?_
    refine run_ite hf (fun _ hf => ?_) (fun _ hf => ?_)
    · refine run_seg (k := 2) (s' := (32, [some (vR 111), g1, g2, some (vI l3), some (vI 0)], [], σ)) rfl ?_
      exact r_M_layWeights_32 (fun h => ih h) 1000000 hf
    · refine run_seg (k := 3) (s' := (80, [some (vR 111), g1, g2, some (vI l3), g4], [], upS σ 111 30 0)) rfl ?_
      refine run_let (fun σ5 => (80, [some (vR 111), g1, g2, some (vI l3), g4], [], σ5)) hf (fun σ5 hf => ?_)
      refine run_seg (k := 2) (s' := (82, [some (vR 111), g1, g2, some (vI 0), g4], [], σ5)) rfl ?_
      exact r_M_layWeights_82 1000000 hf
theorem c_M_layWeights {p1 : Int} {p2 : Int} {σ : xSt} {r : Int × xSt} (hf : f_M_layWeights p1 p2 σ = some r) : Call (62 + 1) 270 [vR 111, vI p1, vI p2] σ (tIW r).1 (tIW r).2 := by
  unfold f_M_layWeights at hf
  refine call_of (own := 12) (rk := 2) (cd := kX12_layWeights) (ls := [some (vR 111), some (vI p1), some (vI p2), none, none]) (rT := tIW) rfl rfl rfl rfl rfl ?_
  refine run_seg (k := 5) (s' := (7, [some (vR 111), some (vI p1), some (vI p2), none, none], [], upS σ 122 0 p1)) rfl ?_
  refine run_let (fun σ1 => (7, [some (vR 111), some (vI p1), some (vI p2), none, none], [], σ1)) hf (fun σ1 hf => ?_)
  refine run_seg (k := 5) (s' := (14, [some (vR 111), some (vI p1), some (vI p2), none, none], [], upS σ1 122 1 p2)) rfl ?_
  refine run_let (fun σ2 => (14, [some (vR 111), some (vI p1), some (vI p2), none, none], [], σ2)) hf (fun σ2 hf => ?_)
  refine run_seg (k := 3) (s' := (19, [some (vR 111), some (vI p1), some (vI p2), none, none], [], upS σ2 111 29 1)) rfl ?_
  refine run_let (fun σ3 => (19, [some (vR 111), some (vI p1), some (vI p2), none, none], [], σ3)) hf (fun σ3 hf => ?_)
  refine run_seg (k := 2) (s' := (21, [some (vR 111), some (vI p1), some (vI p2), some (vI 0), none], [], σ3)) rfl ?_
  exact r_M_layWeights_21 1000000 hf
/-- BentPennyModel.isOpenIn()Z -/
def f_M_isOpenIn (σ : xSt) : Option (Int) :=
  if σ 113 2 = (-1) then (some 0)
  else (xbR (f_M_isIn_ 60 0 (σ 113 2) σ) fun r1 =>
  if r1 = 0 then (some 0)
  else (some 1))
theorem c_M_isOpenIn {σ : xSt} {r : Int} (hf : f_M_isOpenIn σ = some r) : Call (61 + 1) 271 [vR 111] σ ((tI σ) r).1 ((tI σ) r).2 := by
  unfold f_M_isOpenIn at hf
  refine call_of (own := 12) (rk := 2) (cd := kX12_isOpenIn) (ls := [some (vR 111)]) (rT := (tI σ)) rfl rfl rfl rfl rfl ?_
  refine run_seg (k := 6) (s' := (if σ 113 2 = (-1) then (28, [some (vR 111)], [], σ) else (10, [some (vR 111)], [], σ))) rfl ?_
  refine run_ite hf (fun _ hf => ?_) (fun _ hf => ?_)
  · refine run_seg (k := 1) (s' := (29, [some (vR 111)], [vI 0], σ)) rfl ?_
    exact run_ret hf rfl
  · refine run_seg (k := 6) (s' := (18, [some (vR 111)], [vI (σ 113 2), vI 0, vR 111], σ)) rfl ?_
    refine run_callN (w := fun a => some (vI a)) (m := 269) (as := [vR 111, vI 0, vI (σ 113 2)]) (pc := 21) (ls := [some (vR 111)]) (st' := []) (σ := σ) hf rfl (fun _ h => (c_M_isIn_ h).mono (by decide)) (fun r1 hf => ?_)
    refine run_seg (k := 1) (s' := (if r1 = 0 then (28, [some (vR 111)], [], σ) else (24, [some (vR 111)], [], σ))) rfl ?_
    refine run_ite hf (fun _ hf => ?_) (fun _ hf => ?_)
    · refine run_seg (k := 1) (s' := (29, [some (vR 111)], [vI 0], σ)) rfl ?_
      exact run_ret hf rfl
    · refine run_seg (k := 2) (s' := (29, [some (vR 111)], [vI 1], σ)) rfl ?_
      exact run_ret hf rfl
def f_M_common_17 : Nat → Int → Int → xSt → Option (Int)
  | 0, _, _, _ => none
  | n + 1, l4, l6, σ =>
    if xlc l6 0 = 0 then (if xlc l4 0 < 0 then (some (w64 (-l4)))
    else (some l4))
    else (if l6 = 0 then none else
    xlet (xlrem l4 l6) fun x2 =>
    f_M_common_17 n l6 x2 σ)
/-- BentPennyModel.common(JJ)J -/
def f_M_common (p0 : Int) (p1 : Int) (σ : xSt) : Option (Int) :=
  if xlc p0 0 < 0 then (xlet (w64 (-p0)) fun x1 =>
  f_M_common_17 1000000 x1 p1 σ)
  else (f_M_common_17 1000000 p0 p1 σ)
theorem r_M_common_17 : ∀ (n : Nat) {l4 : Int} {l6 : Int} {g0 : Option xV} {g1 : Option xV} {g2 : Option xV} {g3 : Option xV} {g8 : Option xV} {g9 : Option xV} {σ : xSt} {r : Int}, f_M_common_17 n l4 l6 σ = some r → Run 0 12 3 kX12_common (17, [g0, g1, g2, g3, some (vL l4), none, some (vL l6), none, g8, g9], [], σ) ((tL σ) r) := by
  intro n
  induction n with
  | zero =>
    intro _ _ _ _ _ _ _ _ _ _ h
    exact nomatch (show (none : Option (Int)) = some _ from h)
  | succ n ih =>
    intro l4 l6 g0 g1 g2 g3 g8 g9 σ r hf
    unfold f_M_common_17 at hf
    refine run_seg (k := 4) (s' := (if xlc l6 0 = 0 then (42, [g0, g1, g2, g3, some (vL l4), none, some (vL l6), none, g8, g9], [], σ) else (24, [g0, g1, g2, g3, some (vL l4), none, some (vL l6), none, g8, g9], [], σ))) rfl ?_
    refine run_ite hf (fun _ hf => ?_) (fun _ hf => ?_)
    · refine run_seg (k := 4) (s' := (if xlc l4 0 < 0 then (49, [g0, g1, g2, g3, some (vL l4), none, some (vL l6), none, g8, g9], [], σ) else (55, [g0, g1, g2, g3, some (vL l4), none, some (vL l6), none, g8, g9], [], σ))) rfl ?_
      refine run_ite hf (fun _ hf => ?_) (fun _ hf => ?_)
      · refine run_seg (k := 3) (s' := (57, [g0, g1, g2, g3, some (vL l4), none, some (vL l6), none, g8, g9], [vL (w64 (-l4))], σ)) rfl ?_
        exact run_ret hf rfl
      · refine run_seg (k := 1) (s' := (57, [g0, g1, g2, g3, some (vL l4), none, some (vL l6), none, g8, g9], [vL l4], σ)) rfl ?_
        exact run_ret hf rfl
    · refine run_seg (k := 2) (s' := (28, [g0, g1, g2, g3, some (vL l4), none, some (vL l6), none, g8, g9], [vL l6, vL l4], σ)) rfl ?_
      refine run_gdiv (s' := (29, [g0, g1, g2, g3, some (vL l4), none, some (vL l6), none, g8, g9], [vL (xlrem l4 l6)], σ)) hf rfl (fun hf => ?_)
      refine run_seg (k := 1) (s' := (31, [g0, g1, g2, g3, some (vL l4), none, some (vL l6), none, some (vL (xlrem l4 l6)), none], [], σ)) rfl ?_
      refine run_let (fun x2 => (31, [g0, g1, g2, g3, some (vL l4), none, some (vL l6), none, some (vL x2), none], [], σ)) hf (fun x2 hf => ?_)
      refine run_seg (k := 5) (s' := (17, [g0, g1, g2, g3, some (vL l6), none, some (vL x2), none, some (vL x2), none], [], σ)) rfl ?_
      exact ih hf
theorem c_M_common {p0 : Int} {p1 : Int} {σ : xSt} {r : Int} (hf : f_M_common p0 p1 σ = some r) : Call (0 + 1) 218 [vL p0, vL p1] σ ((tL σ) r).1 ((tL σ) r).2 := by
  unfold f_M_common at hf
  refine call_of (own := 12) (rk := 3) (cd := kX12_common) (ls := [some (vL p0), none, some (vL p1), none, none, none, none, none, none, none]) (rT := (tL σ)) rfl rfl rfl rfl rfl ?_
  refine run_seg (k := 4) (s' := (if xlc p0 0 < 0 then (6, [some (vL p0), none, some (vL p1), none, none, none, none, none, none, none], [], σ) else (11, [some (vL p0), none, some (vL p1), none, none, none, none, none, none, none], [], σ))) rfl ?_
  refine run_ite hf (fun _ hf => ?_) (fun _ hf => ?_)
  · refine run_seg (k := 4) (s' := (14, [some (vL p0), none, some (vL p1), none, some (vL (w64 (-p0))), none, none, none, none, none], [], σ)) rfl ?_
    refine run_let (fun x1 => (14, [some (vL p0), none, some (vL p1), none, some (vL x1), none, none, none, none, none], [], σ)) hf (fun x1 hf => ?_)
    refine run_seg (k := 2) (s' := (17, [some (vL p0), none, some (vL p1), none, some (vL x1), none, some (vL p1), none, none, none], [], σ)) rfl ?_
    exact r_M_common_17 1000000 hf
  · refine run_seg (k := 4) (s' := (17, [some (vL p0), none, some (vL p1), none, some (vL p0), none, some (vL p1), none, none, none], [], σ)) rfl ?_
    exact r_M_common_17 1000000 hf
def f_M_part_10 (l0 : Int) (l2 : Int) (s0 : Int) (σ : xSt) : Option (Int) :=
  xbR (f_M_common l0 l2 σ) fun r1 =>
  if r1 = 0 then none else
  some (xldiv s0 r1)
/-- BentPennyModel.part(JJI)J -/
def f_M_part (p0 : Int) (p1 : Int) (p2 : Int) (σ : xSt) : Option (Int) :=
  if p2 = 0 then (f_M_part_10 p0 p1 p0 σ)
  else (f_M_part_10 p0 p1 p1 σ)
theorem r_M_part_10 {l0 : Int} {l2 : Int} {s0 : Int} {g4 : Option xV} {σ : xSt} {r : Int} (hf : f_M_part_10 l0 l2 s0 σ = some r) : Run 1 12 3 kX12_part (10, [some (vL l0), none, some (vL l2), none, g4], [vL s0], σ) ((tL σ) r) := by
  unfold f_M_part_10 at hf
  refine run_seg (k := 2) (s' := (12, [some (vL l0), none, some (vL l2), none, g4], [vL l2, vL l0, vL s0], σ)) rfl ?_
  refine run_callN (w := fun a => some (vL a)) (m := 218) (as := [vL l0, vL l2]) (pc := 15) (ls := [some (vL l0), none, some (vL l2), none, g4]) (st' := [vL s0]) (σ := σ) hf rfl (fun _ h => (c_M_common h).mono (by decide)) (fun r1 hf => ?_)
  refine run_gdiv (s' := (16, [some (vL l0), none, some (vL l2), none, g4], [vL (xldiv s0 r1)], σ)) hf rfl (fun hf => ?_)
  exact run_ret hf rfl
theorem c_M_part {p0 : Int} {p1 : Int} {p2 : Int} {σ : xSt} {r : Int} (hf : f_M_part p0 p1 p2 σ = some r) : Call (1 + 1) 219 [vL p0, vL p1, vI p2] σ ((tL σ) r).1 ((tL σ) r).2 := by
  unfold f_M_part at hf
  refine call_of (own := 12) (rk := 3) (cd := kX12_part) (ls := [some (vL p0), none, some (vL p1), none, some (vI p2)]) (rT := (tL σ)) rfl rfl rfl rfl rfl ?_
  refine run_seg (k := 2) (s' := (if p2 = 0 then (5, [some (vL p0), none, some (vL p1), none, some (vI p2)], [], σ) else (9, [some (vL p0), none, some (vL p1), none, some (vI p2)], [], σ))) rfl ?_
  refine run_ite hf (fun _ hf => ?_) (fun _ hf => ?_)
  · refine run_seg (k := 2) (s' := (10, [some (vL p0), none, some (vL p1), none, some (vI p2)], [vL p0], σ)) rfl ?_
    exact r_M_part_10 hf
  · refine run_seg (k := 1) (s' := (10, [some (vL p0), none, some (vL p1), none, some (vI p2)], [vL p1], σ)) rfl ?_
    exact r_M_part_10 hf
def f_M_chance_44 (σ : xSt) : Option (Int × xSt) :=
  xbW (f_M_refuseLong σ) fun r10 σ11 =>
  some (r10, σ11)
/-- BentPennyModel.chance(II)J -/
def f_M_chance (p1 : Int) (p2 : Int) (σ : xSt) : Option (Int × xSt) :=
  xbR (f_M_lay σ) fun σ1 =>
  xbR (f_M_isEnd p1 σ1) fun r2 =>
  if r2 = 0 then (f_M_chance_44 σ1)
  else (xbR (f_M_isIn p2 0 1 σ1) fun r3 =>
  if r3 = 0 then (f_M_chance_44 σ1)
  else (xbR (f_M_hasWay σ1) fun r4 =>
  if r4 = 0 then (f_M_chance_44 σ1)
  else (xbR (f_M_isOpenIn σ1) fun r5 =>
  if r5 = 0 then (xbW (f_M_layWeights 0 1 σ1) fun r6 σ7 =>
  if r6 = 0 then (f_M_chance_44 σ7)
  else (xlet (upS σ7 111 0 0) fun σ8 =>
  if 0 ≤ p1 ∧ p1 < 8 then (
  xbR (f_M_part (σ8 121 p1.toNat) (w64 ((σ8 111 29) - (σ8 121 6))) p2 σ8) fun r9 =>
  some (r9, σ8)) else none))
  else (f_M_chance_44 σ1))))
theorem r_M_chance_44 {g1 : Option xV} {g2 : Option xV} {σ : xSt} {r : Int × xSt} (hf : f_M_chance_44 σ = some r) : Run 63 12 3 kX12_chance (44, [some (vR 111), g1, g2], [], σ) (tLW r) := by
  unfold f_M_chance_44 at hf
  refine run_seg (k := 1) (s' := (45, [some (vR 111), g1, g2], [vR 111], σ)) rfl ?_
  refine run_callW (w := fun a => some (vL a)) (m := 211) (as := [vR 111]) (pc := 48) (ls := [some (vR 111), g1, g2]) (st' := []) (σ := σ) hf rfl (fun _ _ h => (c_M_refuseLong h).mono (by decide)) (fun r10 σ11 hf => ?_)
  exact run_ret hf rfl
theorem c_M_chance {p1 : Int} {p2 : Int} {σ : xSt} {r : Int × xSt} (hf : f_M_chance p1 p2 σ = some r) : Call (63 + 1) 272 [vR 111, vI p1, vI p2] σ (tLW r).1 (tLW r).2 := by
  unfold f_M_chance at hf
  refine call_of (own := 12) (rk := 3) (cd := kX12_chance) (ls := [some (vR 111), some (vI p1), some (vI p2)]) (rT := tLW) rfl rfl rfl rfl rfl ?_
  refine run_seg (k := 1) (s' := (1, [some (vR 111), some (vI p1), some (vI p2)], [vR 111], σ)) rfl ?_
  refine run_callV (m := 233) (as := [vR 111]) (pc := 4) (ls := [some (vR 111), some (vI p1), some (vI p2)]) (st' := []) (σ := σ) hf rfl (fun _ h => (c_M_lay h).mono (by decide)) (fun σ1 hf => ?_)
  refine run_seg (k := 2) (s' := (6, [some (vR 111), some (vI p1), some (vI p2)], [vI p1, vR 111], σ1)) rfl ?_
  refine run_callN (w := fun a => some (vI a)) (m := 248) (as := [vR 111, vI p1]) (pc := 9) (ls := [some (vR 111), some (vI p1), some (vI p2)]) (st' := []) (σ := σ1) hf rfl (fun _ h => (c_M_isEnd h).mono (by decide)) (fun r2 hf => ?_)
  refine run_seg (k := 1) (s' := (if r2 = 0 then (44, [some (vR 111), some (vI p1), some (vI p2)], [], σ1) else (12, [some (vR 111), some (vI p1), some (vI p2)], [], σ1))) rfl ?_
  refine run_ite hf (fun _ hf => ?_) (fun _ hf => ?_)
  · exact r_M_chance_44 hf
  · refine run_seg (k := 3) (s' := (15, [some (vR 111), some (vI p1), some (vI p2)], [vI 1, vI 0, vI p2], σ1)) rfl ?_
    refine run_callN (w := fun a => some (vI a)) (m := 216) (as := [vI p2, vI 0, vI 1]) (pc := 18) (ls := [some (vR 111), some (vI p1), some (vI p2)]) (st' := []) (σ := σ1) hf rfl (fun _ h => (c_M_isIn h).mono (by decide)) (fun r3 hf => ?_)
    refine run_seg (k := 1) (s' := (if r3 = 0 then (44, [some (vR 111), some (vI p1), some (vI p2)], [], σ1) else (21, [some (vR 111), some (vI p1), some (vI p2)], [], σ1))) rfl ?_
    refine run_ite hf (fun _ hf => ?_) (fun _ hf => ?_)
    · exact r_M_chance_44 hf
    · refine run_seg (k := 1) (s' := (22, [some (vR 111), some (vI p1), some (vI p2)], [vR 111], σ1)) rfl ?_
      refine run_callN (w := fun a => some (vI a)) (m := 263) (as := [vR 111]) (pc := 25) (ls := [some (vR 111), some (vI p1), some (vI p2)]) (st' := []) (σ := σ1) hf rfl (fun _ h => (c_M_hasWay h).mono (by decide)) (fun r4 hf => ?_)
      refine run_seg (k := 1) (s' := (if r4 = 0 then (44, [some (vR 111), some (vI p1), some (vI p2)], [], σ1) else (28, [some (vR 111), some (vI p1), some (vI p2)], [], σ1))) rfl ?_
      refine run_ite hf (fun _ hf => ?_) (fun _ hf => ?_)
      · exact r_M_chance_44 hf
      · refine run_seg (k := 1) (s' := (29, [some (vR 111), some (vI p1), some (vI p2)], [vR 111], σ1)) rfl ?_
        refine run_callN (w := fun a => some (vI a)) (m := 271) (as := [vR 111]) (pc := 32) (ls := [some (vR 111), some (vI p1), some (vI p2)]) (st' := []) (σ := σ1) hf rfl (fun _ h => (c_M_isOpenIn h).mono (by decide)) (fun r5 hf => ?_)
        refine run_seg (k := 1) (s' := (if r5 = 0 then (35, [some (vR 111), some (vI p1), some (vI p2)], [], σ1) else (44, [some (vR 111), some (vI p1), some (vI p2)], [], σ1))) rfl ?_
        refine run_ite hf (fun _ hf => ?_) (fun _ hf => ?_)
        · refine run_seg (k := 3) (s' := (38, [some (vR 111), some (vI p1), some (vI p2)], [vI 1, vI 0, vR 111], σ1)) rfl ?_
          refine run_callW (w := fun a => some (vI a)) (m := 270) (as := [vR 111, vI 0, vI 1]) (pc := 41) (ls := [some (vR 111), some (vI p1), some (vI p2)]) (st' := []) (σ := σ1) hf rfl (fun _ _ h => (c_M_layWeights h).mono (by decide)) (fun r6 σ7 hf => ?_)
          refine run_seg (k := 1) (s' := (if r6 = 0 then (44, [some (vR 111), some (vI p1), some (vI p2)], [], σ7) else (49, [some (vR 111), some (vI p1), some (vI p2)], [], σ7))) rfl ?_
          refine run_ite hf (fun _ hf => ?_) (fun _ hf => ?_)
          · exact r_M_chance_44 hf
          · refine run_seg (k := 3) (s' := (54, [some (vR 111), some (vI p1), some (vI p2)], [], upS σ7 111 0 0)) rfl ?_
            refine run_let (fun σ8 => (54, [some (vR 111), some (vI p1), some (vI p2)], [], σ8)) hf (fun σ8 hf => ?_)
            refine run_seg (k := 3) (s' := (59, [some (vR 111), some (vI p1), some (vI p2)], [vI p1, vR 121], σ8)) rfl ?_
            refine run_guard (s' := (60, [some (vR 111), some (vI p1), some (vI p2)], [vL (σ8 121 p1.toNat)], σ8)) hf rfl (fun hf => ?_)
            refine run_seg (k := 8) (s' := (73, [some (vR 111), some (vI p1), some (vI p2)], [vI p2, vL (w64 ((σ8 111 29) - (σ8 121 6))), vL (σ8 121 p1.toNat)], σ8)) rfl ?_
            refine run_callN (w := fun a => some (vL a)) (m := 219) (as := [vL (σ8 121 p1.toNat), vL (w64 ((σ8 111 29) - (σ8 121 6))), vI p2]) (pc := 76) (ls := [some (vR 111), some (vI p1), some (vI p2)]) (st' := []) (σ := σ8) hf rfl (fun _ h => (c_M_part h).mono (by decide)) (fun r9 hf => ?_)
            exact run_ret hf rfl
        · exact r_M_chance_44 hf
/-- BentPennyModel.isBend(II)Z -/
def f_M_isBend (p0 : Int) (p1 : Int) (σ : xSt) : Option (Int) :=
  xbR (f_M_isIn p1 1 9 σ) fun r1 =>
  if r1 = 0 then (some 0)
  else (xbR (f_M_isIn p0 0 p1 σ) fun r2 =>
  if r2 = 0 then (some 0)
  else (some 1))
theorem c_M_isBend {p0 : Int} {p1 : Int} {σ : xSt} {r : Int} (hf : f_M_isBend p0 p1 σ = some r) : Call (1 + 1) 273 [vI p0, vI p1] σ ((tI σ) r).1 ((tI σ) r).2 := by
  unfold f_M_isBend at hf
  refine call_of (own := 12) (rk := 2) (cd := kX12_isBend) (ls := [some (vI p0), some (vI p1)]) (rT := (tI σ)) rfl rfl rfl rfl rfl ?_
  refine run_seg (k := 3) (s' := (4, [some (vI p0), some (vI p1)], [vI 9, vI 1, vI p1], σ)) rfl ?_
  refine run_callN (w := fun a => some (vI a)) (m := 216) (as := [vI p1, vI 1, vI 9]) (pc := 7) (ls := [some (vI p0), some (vI p1)]) (st' := []) (σ := σ) hf rfl (fun _ h => (c_M_isIn h).mono (by decide)) (fun r1 hf => ?_)
  refine run_seg (k := 1) (s' := (if r1 = 0 then (23, [some (vI p0), some (vI p1)], [], σ) else (10, [some (vI p0), some (vI p1)], [], σ))) rfl ?_
  refine run_ite hf (fun _ hf => ?_) (fun _ hf => ?_)
  · refine run_seg (k := 1) (s' := (24, [some (vI p0), some (vI p1)], [vI 0], σ)) rfl ?_
    exact run_ret hf rfl
  · refine run_seg (k := 3) (s' := (13, [some (vI p0), some (vI p1)], [vI p1, vI 0, vI p0], σ)) rfl ?_
    refine run_callN (w := fun a => some (vI a)) (m := 216) (as := [vI p0, vI 0, vI p1]) (pc := 16) (ls := [some (vI p0), some (vI p1)]) (st' := []) (σ := σ) hf rfl (fun _ h => (c_M_isIn h).mono (by decide)) (fun r2 hf => ?_)
    refine run_seg (k := 1) (s' := (if r2 = 0 then (23, [some (vI p0), some (vI p1)], [], σ) else (19, [some (vI p0), some (vI p1)], [], σ))) rfl ?_
    refine run_ite hf (fun _ hf => ?_) (fun _ hf => ?_)
    · refine run_seg (k := 1) (s' := (24, [some (vI p0), some (vI p1)], [vI 0], σ)) rfl ?_
      exact run_ret hf rfl
    · refine run_seg (k := 2) (s' := (24, [some (vI p0), some (vI p1)], [vI 1], σ)) rfl ?_
      exact run_ret hf rfl
def f_M_chanceAt_46 (σ : xSt) : Option (Int × xSt) :=
  xbW (f_M_refuseLong σ) fun r10 σ11 =>
  some (r10, σ11)
/-- BentPennyModel.chanceAt(IIII)J -/
def f_M_chanceAt (p1 : Int) (p2 : Int) (p3 : Int) (p4 : Int) (σ : xSt) : Option (Int × xSt) :=
  xbR (f_M_lay σ) fun σ1 =>
  xbR (f_M_isEnd p1 σ1) fun r2 =>
  if r2 = 0 then (f_M_chanceAt_46 σ1)
  else (xbR (f_M_isBend p2 p3 σ1) fun r3 =>
  if r3 = 0 then (f_M_chanceAt_46 σ1)
  else (xbR (f_M_isIn p4 0 1 σ1) fun r4 =>
  if r4 = 0 then (f_M_chanceAt_46 σ1)
  else (xbR (f_M_hasWay σ1) fun r5 =>
  if r5 = 0 then (f_M_chanceAt_46 σ1)
  else (xbW (f_M_layWeights p2 p3 σ1) fun r6 σ7 =>
  if r6 = 0 then (f_M_chanceAt_46 σ7)
  else (xlet (upS σ7 111 0 0) fun σ8 =>
  if 0 ≤ p1 ∧ p1 < 8 then (
  xbR (f_M_part (σ8 121 p1.toNat) (w64 ((σ8 111 29) - (σ8 121 6))) p4 σ8) fun r9 =>
  some (r9, σ8)) else none)))))
theorem r_M_chanceAt_46 {g1 : Option xV} {g2 : Option xV} {g3 : Option xV} {g4 : Option xV} {σ : xSt} {r : Int × xSt} (hf : f_M_chanceAt_46 σ = some r) : Run 63 12 3 kX12_chanceAt (46, [some (vR 111), g1, g2, g3, g4], [], σ) (tLW r) := by
  unfold f_M_chanceAt_46 at hf
  refine run_seg (k := 1) (s' := (47, [some (vR 111), g1, g2, g3, g4], [vR 111], σ)) rfl ?_
  refine run_callW (w := fun a => some (vL a)) (m := 211) (as := [vR 111]) (pc := 50) (ls := [some (vR 111), g1, g2, g3, g4]) (st' := []) (σ := σ) hf rfl (fun _ _ h => (c_M_refuseLong h).mono (by decide)) (fun r10 σ11 hf => ?_)
  exact run_ret hf rfl
theorem c_M_chanceAt {p1 : Int} {p2 : Int} {p3 : Int} {p4 : Int} {σ : xSt} {r : Int × xSt} (hf : f_M_chanceAt p1 p2 p3 p4 σ = some r) : Call (63 + 1) 274 [vR 111, vI p1, vI p2, vI p3, vI p4] σ (tLW r).1 (tLW r).2 := by
  unfold f_M_chanceAt at hf
  refine call_of (own := 12) (rk := 3) (cd := kX12_chanceAt) (ls := [some (vR 111), some (vI p1), some (vI p2), some (vI p3), some (vI p4)]) (rT := tLW) rfl rfl rfl rfl rfl ?_
  refine run_seg (k := 1) (s' := (1, [some (vR 111), some (vI p1), some (vI p2), some (vI p3), some (vI p4)], [vR 111], σ)) rfl ?_
  refine run_callV (m := 233) (as := [vR 111]) (pc := 4) (ls := [some (vR 111), some (vI p1), some (vI p2), some (vI p3), some (vI p4)]) (st' := []) (σ := σ) hf rfl (fun _ h => (c_M_lay h).mono (by decide)) (fun σ1 hf => ?_)
  refine run_seg (k := 2) (s' := (6, [some (vR 111), some (vI p1), some (vI p2), some (vI p3), some (vI p4)], [vI p1, vR 111], σ1)) rfl ?_
  refine run_callN (w := fun a => some (vI a)) (m := 248) (as := [vR 111, vI p1]) (pc := 9) (ls := [some (vR 111), some (vI p1), some (vI p2), some (vI p3), some (vI p4)]) (st' := []) (σ := σ1) hf rfl (fun _ h => (c_M_isEnd h).mono (by decide)) (fun r2 hf => ?_)
  refine run_seg (k := 1) (s' := (if r2 = 0 then (46, [some (vR 111), some (vI p1), some (vI p2), some (vI p3), some (vI p4)], [], σ1) else (12, [some (vR 111), some (vI p1), some (vI p2), some (vI p3), some (vI p4)], [], σ1))) rfl ?_
  refine run_ite hf (fun _ hf => ?_) (fun _ hf => ?_)
  · exact r_M_chanceAt_46 hf
  · refine run_seg (k := 2) (s' := (14, [some (vR 111), some (vI p1), some (vI p2), some (vI p3), some (vI p4)], [vI p3, vI p2], σ1)) rfl ?_
    refine run_callN (w := fun a => some (vI a)) (m := 273) (as := [vI p2, vI p3]) (pc := 17) (ls := [some (vR 111), some (vI p1), some (vI p2), some (vI p3), some (vI p4)]) (st' := []) (σ := σ1) hf rfl (fun _ h => (c_M_isBend h).mono (by decide)) (fun r3 hf => ?_)
    refine run_seg (k := 1) (s' := (if r3 = 0 then (46, [some (vR 111), some (vI p1), some (vI p2), some (vI p3), some (vI p4)], [], σ1) else (20, [some (vR 111), some (vI p1), some (vI p2), some (vI p3), some (vI p4)], [], σ1))) rfl ?_
    refine run_ite hf (fun _ hf => ?_) (fun _ hf => ?_)
    · exact r_M_chanceAt_46 hf
    · refine run_seg (k := 3) (s' := (24, [some (vR 111), some (vI p1), some (vI p2), some (vI p3), some (vI p4)], [vI 1, vI 0, vI p4], σ1)) rfl ?_
      refine run_callN (w := fun a => some (vI a)) (m := 216) (as := [vI p4, vI 0, vI 1]) (pc := 27) (ls := [some (vR 111), some (vI p1), some (vI p2), some (vI p3), some (vI p4)]) (st' := []) (σ := σ1) hf rfl (fun _ h => (c_M_isIn h).mono (by decide)) (fun r4 hf => ?_)
      refine run_seg (k := 1) (s' := (if r4 = 0 then (46, [some (vR 111), some (vI p1), some (vI p2), some (vI p3), some (vI p4)], [], σ1) else (30, [some (vR 111), some (vI p1), some (vI p2), some (vI p3), some (vI p4)], [], σ1))) rfl ?_
      refine run_ite hf (fun _ hf => ?_) (fun _ hf => ?_)
      · exact r_M_chanceAt_46 hf
      · refine run_seg (k := 1) (s' := (31, [some (vR 111), some (vI p1), some (vI p2), some (vI p3), some (vI p4)], [vR 111], σ1)) rfl ?_
        refine run_callN (w := fun a => some (vI a)) (m := 263) (as := [vR 111]) (pc := 34) (ls := [some (vR 111), some (vI p1), some (vI p2), some (vI p3), some (vI p4)]) (st' := []) (σ := σ1) hf rfl (fun _ h => (c_M_hasWay h).mono (by decide)) (fun r5 hf => ?_)
        refine run_seg (k := 1) (s' := (if r5 = 0 then (46, [some (vR 111), some (vI p1), some (vI p2), some (vI p3), some (vI p4)], [], σ1) else (37, [some (vR 111), some (vI p1), some (vI p2), some (vI p3), some (vI p4)], [], σ1))) rfl ?_
        refine run_ite hf (fun _ hf => ?_) (fun _ hf => ?_)
        · exact r_M_chanceAt_46 hf
        · refine run_seg (k := 3) (s' := (40, [some (vR 111), some (vI p1), some (vI p2), some (vI p3), some (vI p4)], [vI p3, vI p2, vR 111], σ1)) rfl ?_
          refine run_callW (w := fun a => some (vI a)) (m := 270) (as := [vR 111, vI p2, vI p3]) (pc := 43) (ls := [some (vR 111), some (vI p1), some (vI p2), some (vI p3), some (vI p4)]) (st' := []) (σ := σ1) hf rfl (fun _ _ h => (c_M_layWeights h).mono (by decide)) (fun r6 σ7 hf => ?_)
          refine run_seg (k := 1) (s' := (if r6 = 0 then (46, [some (vR 111), some (vI p1), some (vI p2), some (vI p3), some (vI p4)], [], σ7) else (51, [some (vR 111), some (vI p1), some (vI p2), some (vI p3), some (vI p4)], [], σ7))) rfl ?_
          refine run_ite hf (fun _ hf => ?_) (fun _ hf => ?_)
          · exact r_M_chanceAt_46 hf
          · refine run_seg (k := 3) (s' := (56, [some (vR 111), some (vI p1), some (vI p2), some (vI p3), some (vI p4)], [], upS σ7 111 0 0)) rfl ?_
            refine run_let (fun σ8 => (56, [some (vR 111), some (vI p1), some (vI p2), some (vI p3), some (vI p4)], [], σ8)) hf (fun σ8 hf => ?_)
            refine run_seg (k := 3) (s' := (61, [some (vR 111), some (vI p1), some (vI p2), some (vI p3), some (vI p4)], [vI p1, vR 121], σ8)) rfl ?_
            refine run_guard (s' := (62, [some (vR 111), some (vI p1), some (vI p2), some (vI p3), some (vI p4)], [vL (σ8 121 p1.toNat)], σ8)) hf rfl (fun hf => ?_)
            refine run_seg (k := 8) (s' := (76, [some (vR 111), some (vI p1), some (vI p2), some (vI p3), some (vI p4)], [vI p4, vL (w64 ((σ8 111 29) - (σ8 121 6))), vL (σ8 121 p1.toNat)], σ8)) rfl ?_
            refine run_callN (w := fun a => some (vL a)) (m := 219) (as := [vL (σ8 121 p1.toNat), vL (w64 ((σ8 111 29) - (σ8 121 6))), vI p4]) (pc := 79) (ls := [some (vR 111), some (vI p1), some (vI p2), some (vI p3), some (vI p4)]) (st' := []) (σ := σ8) hf rfl (fun _ h => (c_M_part h).mono (by decide)) (fun r9 hf => ?_)
            exact run_ret hf rfl
def f_M_mean_37 (σ : xSt) : Option (Int × xSt) :=
  xbW (f_M_refuseLong σ) fun r9 σ10 =>
  some (r9, σ10)
/-- BentPennyModel.mean(III)J -/
def f_M_mean (p1 : Int) (p2 : Int) (p3 : Int) (σ : xSt) : Option (Int × xSt) :=
  xbR (f_M_lay σ) fun σ1 =>
  xbR (f_M_isBend p1 p2 σ1) fun r2 =>
  if r2 = 0 then (f_M_mean_37 σ1)
  else (xbR (f_M_isIn p3 0 1 σ1) fun r3 =>
  if r3 = 0 then (f_M_mean_37 σ1)
  else (xbR (f_M_hasWay σ1) fun r4 =>
  if r4 = 0 then (f_M_mean_37 σ1)
  else (xbW (f_M_layWeights p1 p2 σ1) fun r5 σ6 =>
  if r5 = 0 then (f_M_mean_37 σ6)
  else (xlet (upS σ6 111 0 0) fun σ7 =>
  xbR (f_M_part (σ7 111 30) (w64 ((σ7 111 29) - (σ7 121 6))) p3 σ7) fun r8 =>
  some (r8, σ7)))))
theorem r_M_mean_37 {g1 : Option xV} {g2 : Option xV} {g3 : Option xV} {σ : xSt} {r : Int × xSt} (hf : f_M_mean_37 σ = some r) : Run 63 12 3 kX12_mean (37, [some (vR 111), g1, g2, g3], [], σ) (tLW r) := by
  unfold f_M_mean_37 at hf
  refine run_seg (k := 1) (s' := (38, [some (vR 111), g1, g2, g3], [vR 111], σ)) rfl ?_
  refine run_callW (w := fun a => some (vL a)) (m := 211) (as := [vR 111]) (pc := 41) (ls := [some (vR 111), g1, g2, g3]) (st' := []) (σ := σ) hf rfl (fun _ _ h => (c_M_refuseLong h).mono (by decide)) (fun r9 σ10 hf => ?_)
  exact run_ret hf rfl
theorem c_M_mean {p1 : Int} {p2 : Int} {p3 : Int} {σ : xSt} {r : Int × xSt} (hf : f_M_mean p1 p2 p3 σ = some r) : Call (63 + 1) 275 [vR 111, vI p1, vI p2, vI p3] σ (tLW r).1 (tLW r).2 := by
  unfold f_M_mean at hf
  refine call_of (own := 12) (rk := 3) (cd := kX12_mean) (ls := [some (vR 111), some (vI p1), some (vI p2), some (vI p3)]) (rT := tLW) rfl rfl rfl rfl rfl ?_
  refine run_seg (k := 1) (s' := (1, [some (vR 111), some (vI p1), some (vI p2), some (vI p3)], [vR 111], σ)) rfl ?_
  refine run_callV (m := 233) (as := [vR 111]) (pc := 4) (ls := [some (vR 111), some (vI p1), some (vI p2), some (vI p3)]) (st' := []) (σ := σ) hf rfl (fun _ h => (c_M_lay h).mono (by decide)) (fun σ1 hf => ?_)
  refine run_seg (k := 2) (s' := (6, [some (vR 111), some (vI p1), some (vI p2), some (vI p3)], [vI p2, vI p1], σ1)) rfl ?_
  refine run_callN (w := fun a => some (vI a)) (m := 273) (as := [vI p1, vI p2]) (pc := 9) (ls := [some (vR 111), some (vI p1), some (vI p2), some (vI p3)]) (st' := []) (σ := σ1) hf rfl (fun _ h => (c_M_isBend h).mono (by decide)) (fun r2 hf => ?_)
  refine run_seg (k := 1) (s' := (if r2 = 0 then (37, [some (vR 111), some (vI p1), some (vI p2), some (vI p3)], [], σ1) else (12, [some (vR 111), some (vI p1), some (vI p2), some (vI p3)], [], σ1))) rfl ?_
  refine run_ite hf (fun _ hf => ?_) (fun _ hf => ?_)
  · exact r_M_mean_37 hf
  · refine run_seg (k := 3) (s' := (15, [some (vR 111), some (vI p1), some (vI p2), some (vI p3)], [vI 1, vI 0, vI p3], σ1)) rfl ?_
    refine run_callN (w := fun a => some (vI a)) (m := 216) (as := [vI p3, vI 0, vI 1]) (pc := 18) (ls := [some (vR 111), some (vI p1), some (vI p2), some (vI p3)]) (st' := []) (σ := σ1) hf rfl (fun _ h => (c_M_isIn h).mono (by decide)) (fun r3 hf => ?_)
    refine run_seg (k := 1) (s' := (if r3 = 0 then (37, [some (vR 111), some (vI p1), some (vI p2), some (vI p3)], [], σ1) else (21, [some (vR 111), some (vI p1), some (vI p2), some (vI p3)], [], σ1))) rfl ?_
    refine run_ite hf (fun _ hf => ?_) (fun _ hf => ?_)
    · exact r_M_mean_37 hf
    · refine run_seg (k := 1) (s' := (22, [some (vR 111), some (vI p1), some (vI p2), some (vI p3)], [vR 111], σ1)) rfl ?_
      refine run_callN (w := fun a => some (vI a)) (m := 263) (as := [vR 111]) (pc := 25) (ls := [some (vR 111), some (vI p1), some (vI p2), some (vI p3)]) (st' := []) (σ := σ1) hf rfl (fun _ h => (c_M_hasWay h).mono (by decide)) (fun r4 hf => ?_)
      refine run_seg (k := 1) (s' := (if r4 = 0 then (37, [some (vR 111), some (vI p1), some (vI p2), some (vI p3)], [], σ1) else (28, [some (vR 111), some (vI p1), some (vI p2), some (vI p3)], [], σ1))) rfl ?_
      refine run_ite hf (fun _ hf => ?_) (fun _ hf => ?_)
      · exact r_M_mean_37 hf
      · refine run_seg (k := 3) (s' := (31, [some (vR 111), some (vI p1), some (vI p2), some (vI p3)], [vI p2, vI p1, vR 111], σ1)) rfl ?_
        refine run_callW (w := fun a => some (vI a)) (m := 270) (as := [vR 111, vI p1, vI p2]) (pc := 34) (ls := [some (vR 111), some (vI p1), some (vI p2), some (vI p3)]) (st' := []) (σ := σ1) hf rfl (fun _ _ h => (c_M_layWeights h).mono (by decide)) (fun r5 σ6 hf => ?_)
        refine run_seg (k := 1) (s' := (if r5 = 0 then (37, [some (vR 111), some (vI p1), some (vI p2), some (vI p3)], [], σ6) else (42, [some (vR 111), some (vI p1), some (vI p2), some (vI p3)], [], σ6))) rfl ?_
        refine run_ite hf (fun _ hf => ?_) (fun _ hf => ?_)
        · exact r_M_mean_37 hf
        · refine run_seg (k := 3) (s' := (47, [some (vR 111), some (vI p1), some (vI p2), some (vI p3)], [], upS σ6 111 0 0)) rfl ?_
          refine run_let (fun σ7 => (47, [some (vR 111), some (vI p1), some (vI p2), some (vI p3)], [], σ7)) hf (fun σ7 hf => ?_)
          refine run_seg (k := 10) (s' := (64, [some (vR 111), some (vI p1), some (vI p2), some (vI p3)], [vI p3, vL (w64 ((σ7 111 29) - (σ7 121 6))), vL (σ7 111 30)], σ7)) rfl ?_
          refine run_callN (w := fun a => some (vL a)) (m := 219) (as := [vL (σ7 111 30), vL (w64 ((σ7 111 29) - (σ7 121 6))), vI p3]) (pc := 67) (ls := [some (vR 111), some (vI p1), some (vI p2), some (vI p3)]) (st' := []) (σ := σ7) hf rfl (fun _ h => (c_M_part h).mono (by decide)) (fun r8 hf => ?_)
          exact run_ret hf rfl
def f_M_choose_16 : Nat → Int → Int → Int → Int → xSt → Option (Int)
  | 0, _, _, _, _, _ => none
  | n + 1, l0, l1, l2, l4, σ =>
    if l1 < l4 then (some l2)
    else (if l4 = 0 then none else
    xlet (xldiv (w64 (l2 * (w32 ((w32 (l0 - l1)) + l4)))) l4) fun x1 =>
    xlet (w32 (l4 + 1)) fun x2 =>
    f_M_choose_16 n l0 l1 x1 x2 σ)
/-- BentPennyModel.choose(II)J -/
def f_M_choose (p0 : Int) (p1 : Int) (σ : xSt) : Option (Int) :=
  if p1 < 0 then (some 0)
  else (if p0 < p1 then (some 0)
  else (f_M_choose_16 1000000 p0 p1 1 1 σ))
theorem r_M_choose_16 : ∀ (n : Nat) {l0 : Int} {l1 : Int} {l2 : Int} {l4 : Int} {σ : xSt} {r : Int}, f_M_choose_16 n l0 l1 l2 l4 σ = some r → Run 0 12 3 kX12_choose (16, [some (vI l0), some (vI l1), some (vL l2), none, some (vI l4)], [], σ) ((tL σ) r) := by
  intro n
  induction n with
  | zero =>
    intro _ _ _ _ _ _ h
    exact nomatch (show (none : Option (Int)) = some _ from h)
  | succ n ih =>
    intro l0 l1 l2 l4 σ r hf
    unfold f_M_choose_16 at hf
    refine run_seg (k := 3) (s' := (if l1 < l4 then (42, [some (vI l0), some (vI l1), some (vL l2), none, some (vI l4)], [], σ) else (22, [some (vI l0), some (vI l1), some (vL l2), none, some (vI l4)], [], σ))) rfl ?_
    refine run_ite hf (fun _ hf => ?_) (fun _ hf => ?_)
    · refine run_seg (k := 1) (s' := (43, [some (vI l0), some (vI l1), some (vL l2), none, some (vI l4)], [vL l2], σ)) rfl ?_
      exact run_ret hf rfl
    · refine run_seg (k := 10) (s' := (34, [some (vI l0), some (vI l1), some (vL l2), none, some (vI l4)], [vL l4, vL (w64 (l2 * (w32 ((w32 (l0 - l1)) + l4))))], σ)) rfl ?_
      refine run_gdiv (s' := (35, [some (vI l0), some (vI l1), some (vL l2), none, some (vI l4)], [vL (xldiv (w64 (l2 * (w32 ((w32 (l0 - l1)) + l4)))) l4)], σ)) hf rfl (fun hf => ?_)
      refine run_seg (k := 1) (s' := (36, [some (vI l0), some (vI l1), some (vL (xldiv (w64 (l2 * (w32 ((w32 (l0 - l1)) + l4)))) l4)), none, some (vI l4)], [], σ)) rfl ?_
      refine run_let (fun x1 => (36, [some (vI l0), some (vI l1), some (vL x1), none, some (vI l4)], [], σ)) hf (fun x1 hf => ?_)
      refine run_seg (k := 1) (s' := (39, [some (vI l0), some (vI l1), some (vL x1), none, some (vI (w32 (l4 + 1)))], [], σ)) rfl ?_
      refine run_let (fun x2 => (39, [some (vI l0), some (vI l1), some (vL x1), none, some (vI x2)], [], σ)) hf (fun x2 hf => ?_)
      refine run_seg (k := 1) (s' := (16, [some (vI l0), some (vI l1), some (vL x1), none, some (vI x2)], [], σ)) rfl ?_
      exact ih hf
theorem c_M_choose {p0 : Int} {p1 : Int} {σ : xSt} {r : Int} (hf : f_M_choose p0 p1 σ = some r) : Call (0 + 1) 276 [vI p0, vI p1] σ ((tL σ) r).1 ((tL σ) r).2 := by
  unfold f_M_choose at hf
  refine call_of (own := 12) (rk := 3) (cd := kX12_choose) (ls := [some (vI p0), some (vI p1), none, none, none]) (rT := (tL σ)) rfl rfl rfl rfl rfl ?_
  refine run_seg (k := 2) (s' := (if p1 < 0 then (9, [some (vI p0), some (vI p1), none, none, none], [], σ) else (4, [some (vI p0), some (vI p1), none, none, none], [], σ))) rfl ?_
  refine run_ite hf (fun _ hf => ?_) (fun _ hf => ?_)
  · refine run_seg (k := 1) (s' := (10, [some (vI p0), some (vI p1), none, none, none], [vL 0], σ)) rfl ?_
    exact run_ret hf rfl
  · refine run_seg (k := 3) (s' := (if p0 < p1 then (9, [some (vI p0), some (vI p1), none, none, none], [], σ) else (11, [some (vI p0), some (vI p1), none, none, none], [], σ))) rfl ?_
    refine run_ite hf (fun _ hf => ?_) (fun _ hf => ?_)
    · refine run_seg (k := 1) (s' := (10, [some (vI p0), some (vI p1), none, none, none], [vL 0], σ)) rfl ?_
      exact run_ret hf rfl
    · refine run_seg (k := 4) (s' := (16, [some (vI p0), some (vI p1), some (vL 1), none, some (vI 1)], [], σ)) rfl ?_
      exact r_M_choose_16 1000000 hf
def f_M_raise_70 (q_M_raise : (Int → Int → Int → Int → xSt → Option (xSt))) (k36 : (Int → Int → Int → Int → Int → xSt → Option (xSt))) (l2 : Int) (l4 : Int) (l5 : Int) (l7 : Int) (l8 : Int) (s0 : Int) (s1 : Int) (s2 : Int) (σ : xSt) : Option (xSt) :=
  xbR (f_M_choose l5 l8 σ) fun r15 =>
  if 0 ≤ s2 ∧ s2 < 49 then (
  xlet (upS σ 123 s2.toNat (w64 (s1 + (w64 (s0 * r15))))) fun σ16 =>
  xlet (w32 (l8 + 1)) fun x17 =>
  k36 l2 l4 l5 l7 x17 σ16) else none
def f_M_raise_36 (q_M_raise : (Int → Int → Int → Int → xSt → Option (xSt))) : Nat → Int → Int → Int → Int → Int → xSt → Option (xSt)
  | 0, _, _, _, _, _, _ => none
  | n + 1, l2, l4, l5, l7, l8, σ =>
    if l5 < l8 then (some σ)
    else (if 0 ≤ w32 ((w32 (l7 + l4)) + l8) ∧ w32 ((w32 (l7 + l4)) + l8) < 49 then (
    if xrem l8 2 = 0 then (f_M_raise_70 q_M_raise (fun z0 z1 z2 z3 z4 sz => f_M_raise_36 q_M_raise n z0 z1 z2 z3 z4 sz) l2 l4 l5 l7 l8 l2 (σ 123 (w32 ((w32 (l7 + l4)) + l8)).toNat) (w32 ((w32 (l7 + l4)) + l8)) σ)
    else (f_M_raise_70 q_M_raise (fun z0 z1 z2 z3 z4 sz => f_M_raise_36 q_M_raise n z0 z1 z2 z3 z4 sz) l2 l4 l5 l7 l8 (w64 (-l2)) (σ 123 (w32 ((w32 (l7 + l4)) + l8)).toNat) (w32 ((w32 (l7 + l4)) + l8)) σ)) else none)
def f_M_raise_159 (q_M_raise : (Int → Int → Int → Int → xSt → Option (xSt))) (k97 : (Int → Int → Int → Int → Int → Int → xSt → Option (xSt))) (l1 : Int) (l2 : Int) (l4 : Int) (l5 : Int) (l7 : Int) (l8 : Int) (s0 : Int) (s1 : Int) (s2 : Int) (s3 : Int) (σ : xSt) : Option (xSt) :=
  xbR (q_M_raise s3 s2 s1 s0 σ) fun σ18 =>
  xlet (w32 (l8 + 1)) fun x19 =>
  k97 l1 l2 l4 l5 l7 x19 σ18
def f_M_raise_145 (q_M_raise : (Int → Int → Int → Int → xSt → Option (xSt))) (k97 : (Int → Int → Int → Int → Int → Int → xSt → Option (xSt))) (l1 : Int) (l2 : Int) (l4 : Int) (l5 : Int) (l7 : Int) (l8 : Int) (s0 : Int) (s1 : Int) (s2 : Int) (σ : xSt) : Option (xSt) :=
  if l8 = 0 then (f_M_raise_159 q_M_raise (k97) l1 l2 l4 l5 l7 l8 l5 s0 s1 s2 σ)
  else (f_M_raise_159 q_M_raise (k97) l1 l2 l4 l5 l7 l8 (w32 (l5 + 1)) s0 s1 s2 σ)
def f_M_raise_97 (q_M_raise : (Int → Int → Int → Int → xSt → Option (xSt))) : Nat → Int → Int → Int → Int → Int → Int → xSt → Option (xSt)
  | 0, _, _, _, _, _, _, _ => none
  | n + 1, l1, l2, l4, l5, l7, l8, σ =>
    xbR (f_M_sidesOf l7 σ) fun r6 =>
    if l8 < r6 then (if l7 = σ 113 2 then (xbR (f_M_nextOf l1 l8 σ) fun r7 =>
    if l8 = 0 then (f_M_raise_145 q_M_raise (fun z0 z1 z2 z3 z4 z5 sz => f_M_raise_97 q_M_raise n z0 z1 z2 z3 z4 z5 sz) l1 l2 l4 l5 l7 l8 (w32 (l4 + 1)) l2 r7 σ)
    else (f_M_raise_145 q_M_raise (fun z0 z1 z2 z3 z4 z5 sz => f_M_raise_97 q_M_raise n z0 z1 z2 z3 z4 z5 sz) l1 l2 l4 l5 l7 l8 l4 l2 r7 σ))
    else (xbR (f_M_sideOf l7 l8 σ) fun r8 =>
    if 0 < r8 then (xbR (f_M_nextOf l1 l8 σ) fun r9 =>
    xbR (f_M_partsOf l7 σ) fun r10 =>
    if r10 = 0 then none else
    xbR (f_M_sideOf l7 l8 σ) fun r11 =>
    xbR (q_M_raise r9 (w64 ((xldiv l2 r10) * r11)) l4 l5 σ) fun σ12 =>
    xlet (w32 (l8 + 1)) fun x13 =>
    f_M_raise_97 q_M_raise n l1 l2 l4 l5 l7 x13 σ12)
    else (xlet (w32 (l8 + 1)) fun x14 =>
    f_M_raise_97 q_M_raise n l1 l2 l4 l5 l7 x14 σ)))
    else (some σ)
/-- BentPennyModel.raise(IJII)V -/
def f0_M_raise (q_M_raise : (Int → Int → Int → Int → xSt → Option (xSt))) (p1 : Int) (p2 : Int) (p3 : Int) (p4 : Int) (σ : xSt) : Option (xSt) :=
  xbR (f_M_sortOf p1 σ) fun r1 =>
  if r1 < 2 then (if r1 = 0 then (xbR (f_M_whichOf p1 σ) fun r2 =>
  xlet (w32 (7 * r2)) fun x3 =>
  f_M_raise_36 q_M_raise 1000000 p2 p3 p4 x3 0 σ)
  else (xlet (w32 (7 * 6)) fun x4 =>
  f_M_raise_36 q_M_raise 1000000 p2 p3 p4 x4 0 σ))
  else (xbR (f_M_whichOf p1 σ) fun r5 =>
  f_M_raise_97 q_M_raise 1000000 p1 p2 p3 p4 r5 0 σ)
theorem r_M_raise_70 {d : Nat} (hd : 1 ≤ d) {q_M_raise : (Int → Int → Int → Int → xSt → Option (xSt))} (hq_M_raise : ∀ {p1 : Int} {p2 : Int} {p3 : Int} {p4 : Int} {σ : xSt} {r : xSt}, q_M_raise p1 p2 p3 p4 σ = some r → Call d 277 [vR 111, vI p1, vL p2, vI p3, vI p4] σ (tV r).1 (tV r).2) {k36 : (Int → Int → Int → Int → Int → xSt → Option (xSt))} (hk36 : ∀ {l2 : Int} {l4 : Int} {l5 : Int} {l7 : Int} {l8 : Int} {g1 : Option xV} {g6 : Option xV} {σ : xSt} {r : xSt}, k36 l2 l4 l5 l7 l8 σ = some r → Run d 12 0 kX12_raise (36, [some (vR 111), g1, some (vL l2), none, some (vI l4), some (vI l5), g6, some (vI l7), some (vI l8)], [], σ) (tV r)) {l2 : Int} {l4 : Int} {l5 : Int} {l7 : Int} {l8 : Int} {s0 : Int} {s1 : Int} {s2 : Int} {g1 : Option xV} {g6 : Option xV} {σ : xSt} {r : xSt} (hf : f_M_raise_70 q_M_raise k36 l2 l4 l5 l7 l8 s0 s1 s2 σ = some r) : Run d 12 0 kX12_raise (70, [some (vR 111), g1, some (vL l2), none, some (vI l4), some (vI l5), g6, some (vI l7), some (vI l8)], [vL s0, vL s1, vI s2, vR 123], σ) (tV r) := by
  unfold f_M_raise_70 at hf
  refine run_seg (k := 2) (s' := (74, [some (vR 111), g1, some (vL l2), none, some (vI l4), some (vI l5), g6, some (vI l7), some (vI l8)], [vI l8, vI l5, vL s0, vL s1, vI s2, vR 123], σ)) rfl ?_
  refine run_callN (w := fun a => some (vL a)) (m := 276) (as := [vI l5, vI l8]) (pc := 77) (ls := [some (vR 111), g1, some (vL l2), none, some (vI l4), some (vI l5), g6, some (vI l7), some (vI l8)]) (st' := [vL s0, vL s1, vI s2, vR 123]) (σ := σ) hf rfl (fun _ h => (c_M_choose h).mono (Nat.le_trans (by decide) hd)) (fun r15 hf => ?_)
  refine run_seg (k := 2) (s' := (79, [some (vR 111), g1, some (vL l2), none, some (vI l4), some (vI l5), g6, some (vI l7), some (vI l8)], [vL (w64 (s1 + (w64 (s0 * r15)))), vI s2, vR 123], σ)) rfl ?_
  refine run_guard (s' := (80, [some (vR 111), g1, some (vL l2), none, some (vI l4), some (vI l5), g6, some (vI l7), some (vI l8)], [], upS σ 123 s2.toNat (w64 (s1 + (w64 (s0 * r15)))))) hf rfl (fun hf => ?_)
  refine run_let (fun σ16 => (80, [some (vR 111), g1, some (vL l2), none, some (vI l4), some (vI l5), g6, some (vI l7), some (vI l8)], [], σ16)) hf (fun σ16 hf => ?_)
  refine run_seg (k := 1) (s' := (83, [some (vR 111), g1, some (vL l2), none, some (vI l4), some (vI l5), g6, some (vI l7), some (vI (w32 (l8 + 1)))], [], σ16)) rfl ?_
  refine run_let (fun x17 => (83, [some (vR 111), g1, some (vL l2), none, some (vI l4), some (vI l5), g6, some (vI l7), some (vI x17)], [], σ16)) hf (fun x17 hf => ?_)
  refine run_seg (k := 1) (s' := (36, [some (vR 111), g1, some (vL l2), none, some (vI l4), some (vI l5), g6, some (vI l7), some (vI x17)], [], σ16)) rfl ?_
  exact hk36 hf
theorem r_M_raise_36 {d : Nat} (hd : 1 ≤ d) {q_M_raise : (Int → Int → Int → Int → xSt → Option (xSt))} (hq_M_raise : ∀ {p1 : Int} {p2 : Int} {p3 : Int} {p4 : Int} {σ : xSt} {r : xSt}, q_M_raise p1 p2 p3 p4 σ = some r → Call d 277 [vR 111, vI p1, vL p2, vI p3, vI p4] σ (tV r).1 (tV r).2) : ∀ (n : Nat) {l2 : Int} {l4 : Int} {l5 : Int} {l7 : Int} {l8 : Int} {g1 : Option xV} {g6 : Option xV} {σ : xSt} {r : xSt}, f_M_raise_36 q_M_raise n l2 l4 l5 l7 l8 σ = some r → Run d 12 0 kX12_raise (36, [some (vR 111), g1, some (vL l2), none, some (vI l4), some (vI l5), g6, some (vI l7), some (vI l8)], [], σ) (tV r) := by
  intro n
  induction n with
  | zero =>
    intro _ _ _ _ _ _ _ _ _ h
    exact nomatch (show (none : Option (xSt)) = some _ from h)
  | succ n ih =>
    intro l2 l4 l5 l7 l8 g1 g6 σ r hf
    unfold f_M_raise_36 at hf
    refine run_seg (k := 3) (s' := (if l5 < l8 then (86, [some (vR 111), g1, some (vL l2), none, some (vI l4), some (vI l5), g6, some (vI l7), some (vI l8)], [], σ) else (43, [some (vR 111), g1, some (vL l2), none, some (vI l4), some (vI l5), g6, some (vI l7), some (vI l8)], [], σ))) rfl ?_
    refine run_ite hf (fun _ hf => ?_) (fun _ hf => ?_)
    · exact run_ret hf rfl
    · refine run_seg (k := 8) (s' := (56, [some (vR 111), g1, some (vL l2), none, some (vI l4), some (vI l5), g6, some (vI l7), some (vI l8)], [vI (w32 ((w32 (l7 + l4)) + l8)), vR 123, vI (w32 ((w32 (l7 + l4)) + l8)), vR 123], σ)) rfl ?_
      refine run_guard (s' := (57, [some (vR 111), g1, some (vL l2), none, some (vI l4), some (vI l5), g6, some (vI l7), some (vI l8)], [vL (σ 123 (w32 ((w32 (l7 + l4)) + l8)).toNat), vI (w32 ((w32 (l7 + l4)) + l8)), vR 123], σ)) hf rfl (fun hf => ?_)
      refine run_seg (k := 4) (s' := (if xrem l8 2 = 0 then (64, [some (vR 111), g1, some (vL l2), none, some (vI l4), some (vI l5), g6, some (vI l7), some (vI l8)], [vL (σ 123 (w32 ((w32 (l7 + l4)) + l8)).toNat), vI (w32 ((w32 (l7 + l4)) + l8)), vR 123], σ) else (68, [some (vR 111), g1, some (vL l2), none, some (vI l4), some (vI l5), g6, some (vI l7), some (vI l8)], [vL (σ 123 (w32 ((w32 (l7 + l4)) + l8)).toNat), vI (w32 ((w32 (l7 + l4)) + l8)), vR 123], σ))) rfl ?_
      refine run_ite hf (fun _ hf => ?_) (fun _ hf => ?_)
      · refine run_seg (k := 2) (s' := (70, [some (vR 111), g1, some (vL l2), none, some (vI l4), some (vI l5), g6, some (vI l7), some (vI l8)], [vL l2, vL (σ 123 (w32 ((w32 (l7 + l4)) + l8)).toNat), vI (w32 ((w32 (l7 + l4)) + l8)), vR 123], σ)) rfl ?_
        exact r_M_raise_70 hd hq_M_raise (fun h => ih h) hf
      · refine run_seg (k := 2) (s' := (70, [some (vR 111), g1, some (vL l2), none, some (vI l4), some (vI l5), g6, some (vI l7), some (vI l8)], [vL (w64 (-l2)), vL (σ 123 (w32 ((w32 (l7 + l4)) + l8)).toNat), vI (w32 ((w32 (l7 + l4)) + l8)), vR 123], σ)) rfl ?_
        exact r_M_raise_70 hd hq_M_raise (fun h => ih h) hf
theorem r_M_raise_159 {d : Nat} (hd : 1 ≤ d) {q_M_raise : (Int → Int → Int → Int → xSt → Option (xSt))} (hq_M_raise : ∀ {p1 : Int} {p2 : Int} {p3 : Int} {p4 : Int} {σ : xSt} {r : xSt}, q_M_raise p1 p2 p3 p4 σ = some r → Call d 277 [vR 111, vI p1, vL p2, vI p3, vI p4] σ (tV r).1 (tV r).2) {k97 : (Int → Int → Int → Int → Int → Int → xSt → Option (xSt))} (hk97 : ∀ {l1 : Int} {l2 : Int} {l4 : Int} {l5 : Int} {l7 : Int} {l8 : Int} {g6 : Option xV} {σ : xSt} {r : xSt}, k97 l1 l2 l4 l5 l7 l8 σ = some r → Run d 12 0 kX12_raise (97, [some (vR 111), some (vI l1), some (vL l2), none, some (vI l4), some (vI l5), g6, some (vI l7), some (vI l8)], [], σ) (tV r)) {l1 : Int} {l2 : Int} {l4 : Int} {l5 : Int} {l7 : Int} {l8 : Int} {s0 : Int} {s1 : Int} {s2 : Int} {s3 : Int} {g6 : Option xV} {σ : xSt} {r : xSt} (hf : f_M_raise_159 q_M_raise k97 l1 l2 l4 l5 l7 l8 s0 s1 s2 s3 σ = some r) : Run d 12 0 kX12_raise (159, [some (vR 111), some (vI l1), some (vL l2), none, some (vI l4), some (vI l5), g6, some (vI l7), some (vI l8)], [vI s0, vI s1, vL s2, vI s3, vR 111], σ) (tV r) := by
  unfold f_M_raise_159 at hf
  refine run_callV (m := 277) (as := [vR 111, vI s3, vL s2, vI s1, vI s0]) (pc := 162) (ls := [some (vR 111), some (vI l1), some (vL l2), none, some (vI l4), some (vI l5), g6, some (vI l7), some (vI l8)]) (st' := []) (σ := σ) hf rfl (fun _ h => (hq_M_raise h)) (fun σ18 hf => ?_)
  refine run_seg (k := 2) (s' := (222, [some (vR 111), some (vI l1), some (vL l2), none, some (vI l4), some (vI l5), g6, some (vI l7), some (vI (w32 (l8 + 1)))], [], σ18)) rfl ?_
  refine run_let (fun x19 => (222, [some (vR 111), some (vI l1), some (vL l2), none, some (vI l4), some (vI l5), g6, some (vI l7), some (vI x19)], [], σ18)) hf (fun x19 hf => ?_)
  refine run_seg (k := 1) (s' := (97, [some (vR 111), some (vI l1), some (vL l2), none, some (vI l4), some (vI l5), g6, some (vI l7), some (vI x19)], [], σ18)) rfl ?_
  exact hk97 hf
theorem r_M_raise_145 {d : Nat} (hd : 1 ≤ d) {q_M_raise : (Int → Int → Int → Int → xSt → Option (xSt))} (hq_M_raise : ∀ {p1 : Int} {p2 : Int} {p3 : Int} {p4 : Int} {σ : xSt} {r : xSt}, q_M_raise p1 p2 p3 p4 σ = some r → Call d 277 [vR 111, vI p1, vL p2, vI p3, vI p4] σ (tV r).1 (tV r).2) {k97 : (Int → Int → Int → Int → Int → Int → xSt → Option (xSt))} (hk97 : ∀ {l1 : Int} {l2 : Int} {l4 : Int} {l5 : Int} {l7 : Int} {l8 : Int} {g6 : Option xV} {σ : xSt} {r : xSt}, k97 l1 l2 l4 l5 l7 l8 σ = some r → Run d 12 0 kX12_raise (97, [some (vR 111), some (vI l1), some (vL l2), none, some (vI l4), some (vI l5), g6, some (vI l7), some (vI l8)], [], σ) (tV r)) {l1 : Int} {l2 : Int} {l4 : Int} {l5 : Int} {l7 : Int} {l8 : Int} {s0 : Int} {s1 : Int} {s2 : Int} {g6 : Option xV} {σ : xSt} {r : xSt} (hf : f_M_raise_145 q_M_raise k97 l1 l2 l4 l5 l7 l8 s0 s1 s2 σ = some r) : Run d 12 0 kX12_raise (145, [some (vR 111), some (vI l1), some (vL l2), none, some (vI l4), some (vI l5), g6, some (vI l7), some (vI l8)], [vI s0, vL s1, vI s2, vR 111], σ) (tV r) := by
  unfold f_M_raise_145 at hf
  refine run_seg (k := 2) (s' := (if l8 = 0 then (150, [some (vR 111), some (vI l1), some (vL l2), none, some (vI l4), some (vI l5), g6, some (vI l7), some (vI l8)], [vI s0, vL s1, vI s2, vR 111], σ) else (155, [some (vR 111), some (vI l1), some (vL l2), none, some (vI l4), some (vI l5), g6, some (vI l7), some (vI l8)], [vI s0, vL s1, vI s2, vR 111], σ))) rfl ?_
  refine run_ite hf (fun _ hf => ?_) (fun _ hf => ?_)
  · refine run_seg (k := 2) (s' := (159, [some (vR 111), some (vI l1), some (vL l2), none, some (vI l4), some (vI l5), g6, some (vI l7), some (vI l8)], [vI l5, vI s0, vL s1, vI s2, vR 111], σ)) rfl ?_
    exact r_M_raise_159 hd hq_M_raise (hk97) hf
  · refine run_seg (k := 3) (s' := (159, [some (vR 111), some (vI l1), some (vL l2), none, some (vI l4), some (vI l5), g6, some (vI l7), some (vI l8)], [vI (w32 (l5 + 1)), vI s0, vL s1, vI s2, vR 111], σ)) rfl ?_
    exact r_M_raise_159 hd hq_M_raise (hk97) hf
theorem r_M_raise_97 {d : Nat} (hd : 1 ≤ d) {q_M_raise : (Int → Int → Int → Int → xSt → Option (xSt))} (hq_M_raise : ∀ {p1 : Int} {p2 : Int} {p3 : Int} {p4 : Int} {σ : xSt} {r : xSt}, q_M_raise p1 p2 p3 p4 σ = some r → Call d 277 [vR 111, vI p1, vL p2, vI p3, vI p4] σ (tV r).1 (tV r).2) : ∀ (n : Nat) {l1 : Int} {l2 : Int} {l4 : Int} {l5 : Int} {l7 : Int} {l8 : Int} {g6 : Option xV} {σ : xSt} {r : xSt}, f_M_raise_97 q_M_raise n l1 l2 l4 l5 l7 l8 σ = some r → Run d 12 0 kX12_raise (97, [some (vR 111), some (vI l1), some (vL l2), none, some (vI l4), some (vI l5), g6, some (vI l7), some (vI l8)], [], σ) (tV r) := by
  intro n
  induction n with
  | zero =>
    intro _ _ _ _ _ _ _ _ _ h
    exact nomatch (show (none : Option (xSt)) = some _ from h)
  | succ n ih =>
    intro l1 l2 l4 l5 l7 l8 g6 σ r hf
    unfold f_M_raise_97 at hf
    refine run_seg (k := 4) (s' := (105, [some (vR 111), some (vI l1), some (vL l2), none, some (vI l4), some (vI l5), g6, some (vI l7), some (vI l8)], [vI l7, vR 113, vI l8], σ)) rfl ?_
    refine run_callN (w := fun a => some (vI a)) (m := 234) (as := [vR 113, vI l7]) (pc := 108) (ls := [some (vR 111), some (vI l1), some (vL l2), none, some (vI l4), some (vI l5), g6, some (vI l7), some (vI l8)]) (st' := [vI l8]) (σ := σ) hf rfl (fun _ h => (c_M_sidesOf h).mono (Nat.le_trans (by decide) hd)) (fun r6 hf => ?_)
    refine run_seg (k := 1) (s' := (if l8 < r6 then (111, [some (vR 111), some (vI l1), some (vL l2), none, some (vI l4), some (vI l5), g6, some (vI l7), some (vI l8)], [], σ) else (225, [some (vR 111), some (vI l1), some (vL l2), none, some (vI l4), some (vI l5), g6, some (vI l7), some (vI l8)], [], σ))) rfl ?_
    refine run_ite hf (fun _ hf => ?_) (fun _ hf => ?_)
    · refine run_seg (k := 6) (s' := (if l7 = σ 113 2 then (122, [some (vR 111), some (vI l1), some (vL l2), none, some (vI l4), some (vI l5), g6, some (vI l7), some (vI l8)], [], σ) else (165, [some (vR 111), some (vI l1), some (vL l2), none, some (vI l4), some (vI l5), g6, some (vI l7), some (vI l8)], [], σ))) rfl ?_
      refine run_ite hf (fun _ hf => ?_) (fun _ hf => ?_)
      · refine run_seg (k := 4) (s' := (127, [some (vR 111), some (vI l1), some (vL l2), none, some (vI l4), some (vI l5), g6, some (vI l7), some (vI l8)], [vI l8, vI l1, vR 111, vR 111], σ)) rfl ?_
        refine run_callN (w := fun a => some (vI a)) (m := 259) (as := [vR 111, vI l1, vI l8]) (pc := 130) (ls := [some (vR 111), some (vI l1), some (vL l2), none, some (vI l4), some (vI l5), g6, some (vI l7), some (vI l8)]) (st' := [vR 111]) (σ := σ) hf rfl (fun _ h => (c_M_nextOf h).mono (Nat.le_trans (by decide) hd)) (fun r7 hf => ?_)
        refine run_seg (k := 3) (s' := (if l8 = 0 then (136, [some (vR 111), some (vI l1), some (vL l2), none, some (vI l4), some (vI l5), g6, some (vI l7), some (vI l8)], [vL l2, vI r7, vR 111], σ) else (143, [some (vR 111), some (vI l1), some (vL l2), none, some (vI l4), some (vI l5), g6, some (vI l7), some (vI l8)], [vL l2, vI r7, vR 111], σ))) rfl ?_
        refine run_ite hf (fun _ hf => ?_) (fun _ hf => ?_)
        · refine run_seg (k := 4) (s' := (145, [some (vR 111), some (vI l1), some (vL l2), none, some (vI l4), some (vI l5), g6, some (vI l7), some (vI l8)], [vI (w32 (l4 + 1)), vL l2, vI r7, vR 111], σ)) rfl ?_
          exact r_M_raise_145 hd hq_M_raise (fun h => ih h) hf
        · refine run_seg (k := 1) (s' := (145, [some (vR 111), some (vI l1), some (vL l2), none, some (vI l4), some (vI l5), g6, some (vI l7), some (vI l8)], [vI l4, vL l2, vI r7, vR 111], σ)) rfl ?_
          exact r_M_raise_145 hd hq_M_raise (fun h => ih h) hf
      · refine run_seg (k := 4) (s' := (173, [some (vR 111), some (vI l1), some (vL l2), none, some (vI l4), some (vI l5), g6, some (vI l7), some (vI l8)], [vI l8, vI l7, vR 113], σ)) rfl ?_
        refine run_callN (w := fun a => some (vI a)) (m := 236) (as := [vR 113, vI l7, vI l8]) (pc := 176) (ls := [some (vR 111), some (vI l1), some (vL l2), none, some (vI l4), some (vI l5), g6, some (vI l7), some (vI l8)]) (st' := []) (σ := σ) hf rfl (fun _ h => (c_M_sideOf h).mono (Nat.le_trans (by decide) hd)) (fun r8 hf => ?_)
        refine run_seg (k := 1) (s' := (if 0 < r8 then (179, [some (vR 111), some (vI l1), some (vL l2), none, some (vI l4), some (vI l5), g6, some (vI l7), some (vI l8)], [], σ) else (219, [some (vR 111), some (vI l1), some (vL l2), none, some (vI l4), some (vI l5), g6, some (vI l7), some (vI l8)], [], σ))) rfl ?_
        refine run_ite hf (fun _ hf => ?_) (fun _ hf => ?_)
        · refine run_seg (k := 4) (s' := (184, [some (vR 111), some (vI l1), some (vL l2), none, some (vI l4), some (vI l5), g6, some (vI l7), some (vI l8)], [vI l8, vI l1, vR 111, vR 111], σ)) rfl ?_
          refine run_callN (w := fun a => some (vI a)) (m := 259) (as := [vR 111, vI l1, vI l8]) (pc := 187) (ls := [some (vR 111), some (vI l1), some (vL l2), none, some (vI l4), some (vI l5), g6, some (vI l7), some (vI l8)]) (st' := [vR 111]) (σ := σ) hf rfl (fun _ h => (c_M_nextOf h).mono (Nat.le_trans (by decide) hd)) (fun r9 hf => ?_)
          refine run_seg (k := 4) (s' := (194, [some (vR 111), some (vI l1), some (vL l2), none, some (vI l4), some (vI l5), g6, some (vI l7), some (vI l8)], [vI l7, vR 113, vL l2, vI r9, vR 111], σ)) rfl ?_
          refine run_callN (w := fun a => some (vI a)) (m := 235) (as := [vR 113, vI l7]) (pc := 197) (ls := [some (vR 111), some (vI l1), some (vL l2), none, some (vI l4), some (vI l5), g6, some (vI l7), some (vI l8)]) (st' := [vL l2, vI r9, vR 111]) (σ := σ) hf rfl (fun _ h => (c_M_partsOf h).mono (Nat.le_trans (by decide) hd)) (fun r10 hf => ?_)
          refine run_seg (k := 1) (s' := (198, [some (vR 111), some (vI l1), some (vL l2), none, some (vI l4), some (vI l5), g6, some (vI l7), some (vI l8)], [vL r10, vL l2, vI r9, vR 111], σ)) rfl ?_
          refine run_gdiv (s' := (199, [some (vR 111), some (vI l1), some (vL l2), none, some (vI l4), some (vI l5), g6, some (vI l7), some (vI l8)], [vL (xldiv l2 r10), vI r9, vR 111], σ)) hf rfl (fun hf => ?_)
          refine run_seg (k := 4) (s' := (207, [some (vR 111), some (vI l1), some (vL l2), none, some (vI l4), some (vI l5), g6, some (vI l7), some (vI l8)], [vI l8, vI l7, vR 113, vL (xldiv l2 r10), vI r9, vR 111], σ)) rfl ?_
          refine run_callN (w := fun a => some (vI a)) (m := 236) (as := [vR 113, vI l7, vI l8]) (pc := 210) (ls := [some (vR 111), some (vI l1), some (vL l2), none, some (vI l4), some (vI l5), g6, some (vI l7), some (vI l8)]) (st' := [vL (xldiv l2 r10), vI r9, vR 111]) (σ := σ) hf rfl (fun _ h => (c_M_sideOf h).mono (Nat.le_trans (by decide) hd)) (fun r11 hf => ?_)
          refine run_seg (k := 4) (s' := (216, [some (vR 111), some (vI l1), some (vL l2), none, some (vI l4), some (vI l5), g6, some (vI l7), some (vI l8)], [vI l5, vI l4, vL (w64 ((xldiv l2 r10) * r11)), vI r9, vR 111], σ)) rfl ?_
          refine run_callV (m := 277) (as := [vR 111, vI r9, vL (w64 ((xldiv l2 r10) * r11)), vI l4, vI l5]) (pc := 219) (ls := [some (vR 111), some (vI l1), some (vL l2), none, some (vI l4), some (vI l5), g6, some (vI l7), some (vI l8)]) (st' := []) (σ := σ) hf rfl (fun _ h => (hq_M_raise h)) (fun σ12 hf => ?_)
          refine run_seg (k := 1) (s' := (222, [some (vR 111), some (vI l1), some (vL l2), none, some (vI l4), some (vI l5), g6, some (vI l7), some (vI (w32 (l8 + 1)))], [], σ12)) rfl ?_
          refine run_let (fun x13 => (222, [some (vR 111), some (vI l1), some (vL l2), none, some (vI l4), some (vI l5), g6, some (vI l7), some (vI x13)], [], σ12)) hf (fun x13 hf => ?_)
          refine run_seg (k := 1) (s' := (97, [some (vR 111), some (vI l1), some (vL l2), none, some (vI l4), some (vI l5), g6, some (vI l7), some (vI x13)], [], σ12)) rfl ?_
          exact ih hf
        · refine run_seg (k := 1) (s' := (222, [some (vR 111), some (vI l1), some (vL l2), none, some (vI l4), some (vI l5), g6, some (vI l7), some (vI (w32 (l8 + 1)))], [], σ)) rfl ?_
          refine run_let (fun x14 => (222, [some (vR 111), some (vI l1), some (vL l2), none, some (vI l4), some (vI l5), g6, some (vI l7), some (vI x14)], [], σ)) hf (fun x14 hf => ?_)
          refine run_seg (k := 1) (s' := (97, [some (vR 111), some (vI l1), some (vL l2), none, some (vI l4), some (vI l5), g6, some (vI l7), some (vI x14)], [], σ)) rfl ?_
          exact ih hf
    · exact run_ret hf rfl
theorem c0_M_raise {d : Nat} (hd : 1 ≤ d) {q_M_raise : (Int → Int → Int → Int → xSt → Option (xSt))} (hq_M_raise : ∀ {p1 : Int} {p2 : Int} {p3 : Int} {p4 : Int} {σ : xSt} {r : xSt}, q_M_raise p1 p2 p3 p4 σ = some r → Call d 277 [vR 111, vI p1, vL p2, vI p3, vI p4] σ (tV r).1 (tV r).2) {p1 : Int} {p2 : Int} {p3 : Int} {p4 : Int} {σ : xSt} {r : xSt} (hf : f0_M_raise q_M_raise p1 p2 p3 p4 σ = some r) : Call (d + 1) 277 [vR 111, vI p1, vL p2, vI p3, vI p4] σ (tV r).1 (tV r).2 := by
  unfold f0_M_raise at hf
  refine call_of (own := 12) (rk := 0) (cd := kX12_raise) (ls := [some (vR 111), some (vI p1), some (vL p2), none, some (vI p3), some (vI p4), none, none, none]) (rT := tV) rfl rfl rfl rfl rfl ?_
  refine run_seg (k := 2) (s' := (2, [some (vR 111), some (vI p1), some (vL p2), none, some (vI p3), some (vI p4), none, none, none], [vI p1, vR 111], σ)) rfl ?_
  refine run_callN (w := fun a => some (vI a)) (m := 257) (as := [vR 111, vI p1]) (pc := 5) (ls := [some (vR 111), some (vI p1), some (vL p2), none, some (vI p3), some (vI p4), none, none, none]) (st' := []) (σ := σ) hf rfl (fun _ h => (c_M_sortOf h).mono (Nat.le_trans (by decide) hd)) (fun r1 hf => ?_)
  refine run_seg (k := 4) (s' := (if r1 < 2 then (13, [some (vR 111), some (vI p1), some (vL p2), none, some (vI p3), some (vI p4), some (vI r1), none, none], [], σ) else (87, [some (vR 111), some (vI p1), some (vL p2), none, some (vI p3), some (vI p4), some (vI r1), none, none], [], σ))) rfl ?_
  refine run_ite hf (fun _ hf => ?_) (fun _ hf => ?_)
  · refine run_seg (k := 3) (s' := (if r1 = 0 then (20, [some (vR 111), some (vI p1), some (vL p2), none, some (vI p3), some (vI p4), some (vI r1), none, none], [vI 7], σ) else (28, [some (vR 111), some (vI p1), some (vL p2), none, some (vI p3), some (vI p4), some (vI r1), none, none], [vI 7], σ))) rfl ?_
    refine run_ite hf (fun _ hf => ?_) (fun _ hf => ?_)
    · refine run_seg (k := 2) (s' := (22, [some (vR 111), some (vI p1), some (vL p2), none, some (vI p3), some (vI p4), some (vI r1), none, none], [vI p1, vR 111, vI 7], σ)) rfl ?_
      refine run_callN (w := fun a => some (vI a)) (m := 258) (as := [vR 111, vI p1]) (pc := 25) (ls := [some (vR 111), some (vI p1), some (vL p2), none, some (vI p3), some (vI p4), some (vI r1), none, none]) (st' := [vI 7]) (σ := σ) hf rfl (fun _ h => (c_M_whichOf h).mono (Nat.le_trans (by decide) hd)) (fun r2 hf => ?_)
      refine run_seg (k := 3) (s' := (33, [some (vR 111), some (vI p1), some (vL p2), none, some (vI p3), some (vI p4), some (vI r1), some (vI (w32 (7 * r2))), none], [], σ)) rfl ?_
      refine run_let (fun x3 => (33, [some (vR 111), some (vI p1), some (vL p2), none, some (vI p3), some (vI p4), some (vI r1), some (vI x3), none], [], σ)) hf (fun x3 hf => ?_)
      refine run_seg (k := 2) (s' := (36, [some (vR 111), some (vI p1), some (vL p2), none, some (vI p3), some (vI p4), some (vI r1), some (vI x3), some (vI 0)], [], σ)) rfl ?_
      exact r_M_raise_36 hd hq_M_raise 1000000 hf
    · refine run_seg (k := 3) (s' := (33, [some (vR 111), some (vI p1), some (vL p2), none, some (vI p3), some (vI p4), some (vI r1), some (vI (w32 (7 * 6))), none], [], σ)) rfl ?_
      refine run_let (fun x4 => (33, [some (vR 111), some (vI p1), some (vL p2), none, some (vI p3), some (vI p4), some (vI r1), some (vI x4), none], [], σ)) hf (fun x4 hf => ?_)
      refine run_seg (k := 2) (s' := (36, [some (vR 111), some (vI p1), some (vL p2), none, some (vI p3), some (vI p4), some (vI r1), some (vI x4), some (vI 0)], [], σ)) rfl ?_
      exact r_M_raise_36 hd hq_M_raise 1000000 hf
  · refine run_seg (k := 2) (s' := (89, [some (vR 111), some (vI p1), some (vL p2), none, some (vI p3), some (vI p4), some (vI r1), none, none], [vI p1, vR 111], σ)) rfl ?_
    refine run_callN (w := fun a => some (vI a)) (m := 258) (as := [vR 111, vI p1]) (pc := 92) (ls := [some (vR 111), some (vI p1), some (vL p2), none, some (vI p3), some (vI p4), some (vI r1), none, none]) (st' := []) (σ := σ) hf rfl (fun _ h => (c_M_whichOf h).mono (Nat.le_trans (by decide) hd)) (fun r5 hf => ?_)
    refine run_seg (k := 3) (s' := (97, [some (vR 111), some (vI p1), some (vL p2), none, some (vI p3), some (vI p4), some (vI r1), some (vI r5), some (vI 0)], [], σ)) rfl ?_
    exact r_M_raise_97 hd hq_M_raise 1000000 hf
def g_M_raise : Nat → (Int → Int → Int → Int → xSt → Option (xSt))
  | 0 => ((fun _ _ _ _ _ => none))
  | n + 1 => ((fun p1 p2 p3 p4 σ => f0_M_raise (g_M_raise n) p1 p2 p3 p4 σ))
def f_M_raise (n : Nat) (p1 : Int) (p2 : Int) (p3 : Int) (p4 : Int) (σ : xSt) : Option (xSt) := g_M_raise n p1 p2 p3 p4 σ
theorem hg_M_raise : ∀ n, (∀ {p1 : Int} {p2 : Int} {p3 : Int} {p4 : Int} {σ : xSt} {r : xSt}, f_M_raise n p1 p2 p3 p4 σ = some r → Call (1 + n) 277 [vR 111, vI p1, vL p2, vI p3, vI p4] σ (tV r).1 (tV r).2) := by
  intro n
  induction n with
  | zero => exact fun h => nomatch (show (none : Option (xSt)) = some _ from h)
  | succ n ih => exact fun h => c0_M_raise (Nat.le_add_right 1 n) (fun h => ih h) h
theorem c_M_raise {p1 : Int} {p2 : Int} {p3 : Int} {p4 : Int} {σ : xSt} {r : xSt} (hf : f_M_raise 60 p1 p2 p3 p4 σ = some r) : Call 61 277 [vR 111, vI p1, vL p2, vI p3, vI p4] σ (tV r).1 (tV r).2 := (hg_M_raise 60) hf
def f_M_layPowers_17 (k7 : (Int → xSt → Option (xSt))) : Nat → Int → Int → xSt → Option (xSt)
  | 0, _, _, _ => none
  | n + 1, l1, l2, σ =>
    if l2 < 6 then (if l1 = σ 113 2 then (xlet (w32 (l1 + 1)) fun x3 =>
    k7 x3 σ)
    else (xbR (f_M_isIn_ 60 0 l1 σ) fun r4 =>
    if r4 = 0 then (xlet (w32 (l1 + 1)) fun x5 =>
    k7 x5 σ)
    else (xbR (f_M_partsOf l1 σ) fun r6 =>
    xlet (upS σ 111 32 (w64 ((σ 111 32) * r6))) fun σ7 =>
    xlet (w32 (l2 + 1)) fun x8 =>
    f_M_layPowers_17 k7 n l1 x8 σ7)))
    else (xlet (w32 (l1 + 1)) fun x9 =>
    k7 x9 σ)
def f_M_layPowers_74 : Nat → Int → xSt → Option (xSt)
  | 0, _, _ => none
  | n + 1, l1, σ =>
    if l1 < 49 then (if 0 ≤ l1 ∧ l1 < 49 then (
    xlet (upS σ 123 l1.toNat 0) fun σ10 =>
    xlet (w32 (l1 + 1)) fun x11 =>
    f_M_layPowers_74 n x11 σ10) else none)
    else (xbR (f_M_raise 60 0 (σ 111 32) 0 0 σ) fun σ12 =>
    some σ12)
def f_M_layPowers_7 : Nat → Int → xSt → Option (xSt)
  | 0, _, _ => none
  | n + 1, l1, σ =>
    xbR (f_M_things σ) fun r2 =>
    if l1 < r2 then (f_M_layPowers_17 (fun z0 sz => f_M_layPowers_7 n z0 sz) 1000000 l1 0 σ)
    else (f_M_layPowers_74 1000000 0 σ)
/-- BentPennyModel.layPowers()V -/
def f_M_layPowers (σ : xSt) : Option (xSt) :=
  xlet (upS σ 111 32 1) fun σ1 =>
  f_M_layPowers_7 1000000 0 σ1
theorem r_M_layPowers_17 {k7 : (Int → xSt → Option (xSt))} (hk7 : ∀ {l1 : Int} {g2 : Option xV} {σ : xSt} {r : xSt}, k7 l1 σ = some r → Run 61 12 0 kX12_layPowers (7, [some (vR 111), some (vI l1), g2], [], σ) (tV r)) : ∀ (n : Nat) {l1 : Int} {l2 : Int} {σ : xSt} {r : xSt}, f_M_layPowers_17 k7 n l1 l2 σ = some r → Run 61 12 0 kX12_layPowers (17, [some (vR 111), some (vI l1), some (vI l2)], [], σ) (tV r) := by
  intro n
  induction n with
  | zero =>
    intro _ _ _ _ h
    exact nomatch (show (none : Option (xSt)) = some _ from h)
  | succ n ih =>
    intro l1 l2 σ r hf
    unfold f_M_layPowers_17 at hf
    refine run_seg (k := 3) (s' := (if l2 < 6 then (23, [some (vR 111), some (vI l1), some (vI l2)], [], σ) else (66, [some (vR 111), some (vI l1), some (vI l2)], [], σ))) rfl ?_
    refine run_ite hf (fun _ hf => ?_) (fun _ hf => ?_)
    · refine run_seg (k := 6) (s' := (if l1 = σ 113 2 then (66, [some (vR 111), some (vI l1), some (vI l2)], [], σ) else (33, [some (vR 111), some (vI l1), some (vI l2)], [], σ))) rfl ?_
      refine run_ite hf (fun _ hf => ?_) (fun _ hf => ?_)
      · refine run_seg (k := 1) (s' := (69, [some (vR 111), some (vI (w32 (l1 + 1))), some (vI l2)], [], σ)) rfl ?_
        refine run_let (fun x3 => (69, [some (vR 111), some (vI x3), some (vI l2)], [], σ)) hf (fun x3 hf => ?_)
        refine run_seg (k := 1) (s' := (7, [some (vR 111), some (vI x3), some (vI l2)], [], σ)) rfl ?_
        exact hk7 hf
      · refine run_seg (k := 3) (s' := (36, [some (vR 111), some (vI l1), some (vI l2)], [vI l1, vI 0, vR 111], σ)) rfl ?_
        refine run_callN (w := fun a => some (vI a)) (m := 269) (as := [vR 111, vI 0, vI l1]) (pc := 39) (ls := [some (vR 111), some (vI l1), some (vI l2)]) (st' := []) (σ := σ) hf rfl (fun _ h => (c_M_isIn_ h).mono (by decide)) (fun r4 hf => ?_)
        refine run_seg (k := 1) (s' := (if r4 = 0 then (66, [some (vR 111), some (vI l1), some (vI l2)], [], σ) else (42, [some (vR 111), some (vI l1), some (vI l2)], [], σ))) rfl ?_
        refine run_ite hf (fun _ hf => ?_) (fun _ hf => ?_)
        · refine run_seg (k := 1) (s' := (69, [some (vR 111), some (vI (w32 (l1 + 1))), some (vI l2)], [], σ)) rfl ?_
          refine run_let (fun x5 => (69, [some (vR 111), some (vI x5), some (vI l2)], [], σ)) hf (fun x5 hf => ?_)
          refine run_seg (k := 1) (s' := (7, [some (vR 111), some (vI x5), some (vI l2)], [], σ)) rfl ?_
          exact hk7 hf
        · refine run_seg (k := 6) (s' := (52, [some (vR 111), some (vI l1), some (vI l2)], [vI l1, vR 113, vL (σ 111 32), vR 111], σ)) rfl ?_
          refine run_callN (w := fun a => some (vI a)) (m := 235) (as := [vR 113, vI l1]) (pc := 55) (ls := [some (vR 111), some (vI l1), some (vI l2)]) (st' := [vL (σ 111 32), vR 111]) (σ := σ) hf rfl (fun _ h => (c_M_partsOf h).mono (by decide)) (fun r6 hf => ?_)
          refine run_seg (k := 3) (s' := (60, [some (vR 111), some (vI l1), some (vI l2)], [], upS σ 111 32 (w64 ((σ 111 32) * r6)))) rfl ?_
          refine run_let (fun σ7 => (60, [some (vR 111), some (vI l1), some (vI l2)], [], σ7)) hf (fun σ7 hf => ?_)
          refine run_seg (k := 1) (s' := (63, [some (vR 111), some (vI l1), some (vI (w32 (l2 + 1)))], [], σ7)) rfl ?_
          refine run_let (fun x8 => (63, [some (vR 111), some (vI l1), some (vI x8)], [], σ7)) hf (fun x8 hf => ?_)
          refine run_seg (k := 1) (s' := (17, [some (vR 111), some (vI l1), some (vI x8)], [], σ7)) rfl ?_
          exact ih hf
    · refine run_seg (k := 1) (s' := (69, [some (vR 111), some (vI (w32 (l1 + 1))), some (vI l2)], [], σ)) rfl ?_
      refine run_let (fun x9 => (69, [some (vR 111), some (vI x9), some (vI l2)], [], σ)) hf (fun x9 hf => ?_)
      refine run_seg (k := 1) (s' := (7, [some (vR 111), some (vI x9), some (vI l2)], [], σ)) rfl ?_
      exact hk7 hf
theorem r_M_layPowers_74 : ∀ (n : Nat) {l1 : Int} {g2 : Option xV} {σ : xSt} {r : xSt}, f_M_layPowers_74 n l1 σ = some r → Run 61 12 0 kX12_layPowers (74, [some (vR 111), some (vI l1), g2], [], σ) (tV r) := by
  intro n
  induction n with
  | zero =>
    intro _ _ _ _ h
    exact nomatch (show (none : Option (xSt)) = some _ from h)
  | succ n ih =>
    intro l1 g2 σ r hf
    unfold f_M_layPowers_74 at hf
    refine run_seg (k := 3) (s' := (if l1 < 49 then (80, [some (vR 111), some (vI l1), g2], [], σ) else (93, [some (vR 111), some (vI l1), g2], [], σ))) rfl ?_
    refine run_ite hf (fun _ hf => ?_) (fun _ hf => ?_)
    · refine run_seg (k := 4) (s' := (86, [some (vR 111), some (vI l1), g2], [vL 0, vI l1, vR 123], σ)) rfl ?_
      refine run_guard (s' := (87, [some (vR 111), some (vI l1), g2], [], upS σ 123 l1.toNat 0)) hf rfl (fun hf => ?_)
      refine run_let (fun σ10 => (87, [some (vR 111), some (vI l1), g2], [], σ10)) hf (fun σ10 hf => ?_)
      refine run_seg (k := 1) (s' := (90, [some (vR 111), some (vI (w32 (l1 + 1))), g2], [], σ10)) rfl ?_
      refine run_let (fun x11 => (90, [some (vR 111), some (vI x11), g2], [], σ10)) hf (fun x11 hf => ?_)
      refine run_seg (k := 1) (s' := (74, [some (vR 111), some (vI x11), g2], [], σ10)) rfl ?_
      exact ih hf
    · refine run_seg (k := 6) (s' := (101, [some (vR 111), some (vI l1), g2], [vI 0, vI 0, vL (σ 111 32), vI 0, vR 111], σ)) rfl ?_
      refine run_callV (m := 277) (as := [vR 111, vI 0, vL (σ 111 32), vI 0, vI 0]) (pc := 104) (ls := [some (vR 111), some (vI l1), g2]) (st' := []) (σ := σ) hf rfl (fun _ h => (c_M_raise h).mono (by decide)) (fun σ12 hf => ?_)
      exact run_ret hf rfl
theorem r_M_layPowers_7 : ∀ (n : Nat) {l1 : Int} {g2 : Option xV} {σ : xSt} {r : xSt}, f_M_layPowers_7 n l1 σ = some r → Run 61 12 0 kX12_layPowers (7, [some (vR 111), some (vI l1), g2], [], σ) (tV r) := by
  intro n
  induction n with
  | zero =>
    intro _ _ _ _ h
    exact nomatch (show (none : Option (xSt)) = some _ from h)
  | succ n ih =>
    intro l1 g2 σ r hf
    unfold f_M_layPowers_7 at hf
    refine run_seg (k := 2) (s' := (9, [some (vR 111), some (vI l1), g2], [vR 111, vI l1], σ)) rfl ?_
    refine run_callN (w := fun a => some (vI a)) (m := 245) (as := [vR 111]) (pc := 12) (ls := [some (vR 111), some (vI l1), g2]) (st' := [vI l1]) (σ := σ) hf rfl (fun _ h => (c_M_things h).mono (by decide)) (fun r2 hf => ?_)
    refine run_seg (k := 1) (s' := (if l1 < r2 then (15, [some (vR 111), some (vI l1), g2], [], σ) else (72, [some (vR 111), some (vI l1), g2], [], σ))) rfl ?_
    refine run_ite hf (fun _ hf => ?_) (fun _ hf => ?_)
    · refine run_seg (k := 2) (s' := (17, [some (vR 111), some (vI l1), some (vI 0)], [], σ)) rfl ?_
      exact r_M_layPowers_17 (fun h => ih h) 1000000 hf
    · refine run_seg (k := 2) (s' := (74, [some (vR 111), some (vI 0), g2], [], σ)) rfl ?_
      exact r_M_layPowers_74 1000000 hf
theorem c_M_layPowers {σ : xSt} {r : xSt} (hf : f_M_layPowers σ = some r) : Call (61 + 1) 278 [vR 111] σ (tV r).1 (tV r).2 := by
  unfold f_M_layPowers at hf
  refine call_of (own := 12) (rk := 0) (cd := kX12_layPowers) (ls := [some (vR 111), none, none]) (rT := tV) rfl rfl rfl rfl rfl ?_
  refine run_seg (k := 3) (s' := (5, [some (vR 111), none, none], [], upS σ 111 32 1)) rfl ?_
  refine run_let (fun σ1 => (5, [some (vR 111), none, none], [], σ1)) hf (fun σ1 hf => ?_)
  refine run_seg (k := 2) (s' := (7, [some (vR 111), some (vI 0), none], [], σ1)) rfl ?_
  exact r_M_layPowers_7 1000000 hf
def f_M_poly_43 (σ : xSt) : Option (Int × xSt) :=
  xbW (f_M_refuseLong σ) fun r8 σ9 =>
  some (r8, σ9)
def f_M_poly_74 (l2 : Int) (l3 : Int) (s0 : Int) (s1 : Int) (σ : xSt) : Option (Int × xSt) :=
  if 0 ≤ w32 ((w32 (s1 * s0)) + l2) ∧ w32 ((w32 (s1 * s0)) + l2) < 49 then (
  xbR (f_M_part (σ 123 (w32 ((w32 (s1 * s0)) + l2)).toNat) (σ 111 32) l3 σ) fun r10 =>
  some (r10, σ)) else none
def f_M_poly_17 (l1 : Int) (l2 : Int) (l3 : Int) (σ : xSt) : Option (Int × xSt) :=
  xbR (f_M_isIn l2 0 6 σ) fun r3 =>
  if r3 = 0 then (f_M_poly_43 σ)
  else (xbR (f_M_isIn l3 0 1 σ) fun r4 =>
  if r4 = 0 then (f_M_poly_43 σ)
  else (xbR (f_M_hasWay σ) fun r5 =>
  if r5 = 0 then (f_M_poly_43 σ)
  else (xlet (upS σ 111 0 0) fun σ6 =>
  xbR (f_M_layPowers σ6) fun σ7 =>
  if l1 = (-1) then (f_M_poly_74 l2 l3 6 7 σ7)
  else (f_M_poly_74 l2 l3 l1 7 σ7))))
/-- BentPennyModel.poly(III)J -/
def f_M_poly (p1 : Int) (p2 : Int) (p3 : Int) (σ : xSt) : Option (Int × xSt) :=
  xbR (f_M_lay σ) fun σ1 =>
  if p1 = (-1) then (f_M_poly_17 p1 p2 p3 σ1)
  else (xbR (f_M_isEnd p1 σ1) fun r2 =>
  if r2 = 0 then (f_M_poly_43 σ1)
  else (f_M_poly_17 p1 p2 p3 σ1))
theorem r_M_poly_43 {g1 : Option xV} {g2 : Option xV} {g3 : Option xV} {σ : xSt} {r : Int × xSt} (hf : f_M_poly_43 σ = some r) : Run 62 12 3 kX12_poly (43, [some (vR 111), g1, g2, g3], [], σ) (tLW r) := by
  unfold f_M_poly_43 at hf
  refine run_seg (k := 1) (s' := (44, [some (vR 111), g1, g2, g3], [vR 111], σ)) rfl ?_
  refine run_callW (w := fun a => some (vL a)) (m := 211) (as := [vR 111]) (pc := 47) (ls := [some (vR 111), g1, g2, g3]) (st' := []) (σ := σ) hf rfl (fun _ _ h => (c_M_refuseLong h).mono (by decide)) (fun r8 σ9 hf => ?_)
  exact run_ret hf rfl
theorem r_M_poly_74 {l2 : Int} {l3 : Int} {s0 : Int} {s1 : Int} {g1 : Option xV} {σ : xSt} {r : Int × xSt} (hf : f_M_poly_74 l2 l3 s0 s1 σ = some r) : Run 62 12 3 kX12_poly (74, [some (vR 111), g1, some (vI l2), some (vI l3)], [vI s0, vI s1, vR 123], σ) (tLW r) := by
  unfold f_M_poly_74 at hf
  refine run_seg (k := 3) (s' := (77, [some (vR 111), g1, some (vI l2), some (vI l3)], [vI (w32 ((w32 (s1 * s0)) + l2)), vR 123], σ)) rfl ?_
  refine run_guard (s' := (78, [some (vR 111), g1, some (vI l2), some (vI l3)], [vL (σ 123 (w32 ((w32 (s1 * s0)) + l2)).toNat)], σ)) hf rfl (fun hf => ?_)
  refine run_seg (k := 3) (s' := (83, [some (vR 111), g1, some (vI l2), some (vI l3)], [vI l3, vL (σ 111 32), vL (σ 123 (w32 ((w32 (s1 * s0)) + l2)).toNat)], σ)) rfl ?_
  refine run_callN (w := fun a => some (vL a)) (m := 219) (as := [vL (σ 123 (w32 ((w32 (s1 * s0)) + l2)).toNat), vL (σ 111 32), vI l3]) (pc := 86) (ls := [some (vR 111), g1, some (vI l2), some (vI l3)]) (st' := []) (σ := σ) hf rfl (fun _ h => (c_M_part h).mono (by decide)) (fun r10 hf => ?_)
  exact run_ret hf rfl
theorem r_M_poly_17 {l1 : Int} {l2 : Int} {l3 : Int} {σ : xSt} {r : Int × xSt} (hf : f_M_poly_17 l1 l2 l3 σ = some r) : Run 62 12 3 kX12_poly (17, [some (vR 111), some (vI l1), some (vI l2), some (vI l3)], [], σ) (tLW r) := by
  unfold f_M_poly_17 at hf
  refine run_seg (k := 3) (s' := (21, [some (vR 111), some (vI l1), some (vI l2), some (vI l3)], [vI 6, vI 0, vI l2], σ)) rfl ?_
  refine run_callN (w := fun a => some (vI a)) (m := 216) (as := [vI l2, vI 0, vI 6]) (pc := 24) (ls := [some (vR 111), some (vI l1), some (vI l2), some (vI l3)]) (st' := []) (σ := σ) hf rfl (fun _ h => (c_M_isIn h).mono (by decide)) (fun r3 hf => ?_)
  refine run_seg (k := 1) (s' := (if r3 = 0 then (43, [some (vR 111), some (vI l1), some (vI l2), some (vI l3)], [], σ) else (27, [some (vR 111), some (vI l1), some (vI l2), some (vI l3)], [], σ))) rfl ?_
  refine run_ite hf (fun _ hf => ?_) (fun _ hf => ?_)
  · exact r_M_poly_43 hf
  · refine run_seg (k := 3) (s' := (30, [some (vR 111), some (vI l1), some (vI l2), some (vI l3)], [vI 1, vI 0, vI l3], σ)) rfl ?_
    refine run_callN (w := fun a => some (vI a)) (m := 216) (as := [vI l3, vI 0, vI 1]) (pc := 33) (ls := [some (vR 111), some (vI l1), some (vI l2), some (vI l3)]) (st' := []) (σ := σ) hf rfl (fun _ h => (c_M_isIn h).mono (by decide)) (fun r4 hf => ?_)
    refine run_seg (k := 1) (s' := (if r4 = 0 then (43, [some (vR 111), some (vI l1), some (vI l2), some (vI l3)], [], σ) else (36, [some (vR 111), some (vI l1), some (vI l2), some (vI l3)], [], σ))) rfl ?_
    refine run_ite hf (fun _ hf => ?_) (fun _ hf => ?_)
    · exact r_M_poly_43 hf
    · refine run_seg (k := 1) (s' := (37, [some (vR 111), some (vI l1), some (vI l2), some (vI l3)], [vR 111], σ)) rfl ?_
      refine run_callN (w := fun a => some (vI a)) (m := 263) (as := [vR 111]) (pc := 40) (ls := [some (vR 111), some (vI l1), some (vI l2), some (vI l3)]) (st' := []) (σ := σ) hf rfl (fun _ h => (c_M_hasWay h).mono (by decide)) (fun r5 hf => ?_)
      refine run_seg (k := 1) (s' := (if r5 = 0 then (43, [some (vR 111), some (vI l1), some (vI l2), some (vI l3)], [], σ) else (48, [some (vR 111), some (vI l1), some (vI l2), some (vI l3)], [], σ))) rfl ?_
      refine run_ite hf (fun _ hf => ?_) (fun _ hf => ?_)
      · exact r_M_poly_43 hf
      · refine run_seg (k := 3) (s' := (53, [some (vR 111), some (vI l1), some (vI l2), some (vI l3)], [], upS σ 111 0 0)) rfl ?_
        refine run_let (fun σ6 => (53, [some (vR 111), some (vI l1), some (vI l2), some (vI l3)], [], σ6)) hf (fun σ6 hf => ?_)
        refine run_seg (k := 1) (s' := (54, [some (vR 111), some (vI l1), some (vI l2), some (vI l3)], [vR 111], σ6)) rfl ?_
        refine run_callV (m := 278) (as := [vR 111]) (pc := 57) (ls := [some (vR 111), some (vI l1), some (vI l2), some (vI l3)]) (st' := []) (σ := σ6) hf rfl (fun _ h => (c_M_layPowers h).mono (by decide)) (fun σ7 hf => ?_)
        refine run_seg (k := 6) (s' := (if l1 = (-1) then (68, [some (vR 111), some (vI l1), some (vI l2), some (vI l3)], [vI 7, vR 123], σ7) else (73, [some (vR 111), some (vI l1), some (vI l2), some (vI l3)], [vI 7, vR 123], σ7))) rfl ?_
        refine run_ite hf (fun _ hf => ?_) (fun _ hf => ?_)
        · refine run_seg (k := 2) (s' := (74, [some (vR 111), some (vI l1), some (vI l2), some (vI l3)], [vI 6, vI 7, vR 123], σ7)) rfl ?_
          exact r_M_poly_74 hf
        · refine run_seg (k := 1) (s' := (74, [some (vR 111), some (vI l1), some (vI l2), some (vI l3)], [vI l1, vI 7, vR 123], σ7)) rfl ?_
          exact r_M_poly_74 hf
theorem c_M_poly {p1 : Int} {p2 : Int} {p3 : Int} {σ : xSt} {r : Int × xSt} (hf : f_M_poly p1 p2 p3 σ = some r) : Call (62 + 1) 279 [vR 111, vI p1, vI p2, vI p3] σ (tLW r).1 (tLW r).2 := by
  unfold f_M_poly at hf
  refine call_of (own := 12) (rk := 3) (cd := kX12_poly) (ls := [some (vR 111), some (vI p1), some (vI p2), some (vI p3)]) (rT := tLW) rfl rfl rfl rfl rfl ?_
  refine run_seg (k := 1) (s' := (1, [some (vR 111), some (vI p1), some (vI p2), some (vI p3)], [vR 111], σ)) rfl ?_
  refine run_callV (m := 233) (as := [vR 111]) (pc := 4) (ls := [some (vR 111), some (vI p1), some (vI p2), some (vI p3)]) (st' := []) (σ := σ) hf rfl (fun _ h => (c_M_lay h).mono (by decide)) (fun σ1 hf => ?_)
  refine run_seg (k := 3) (s' := (if p1 = (-1) then (17, [some (vR 111), some (vI p1), some (vI p2), some (vI p3)], [], σ1) else (9, [some (vR 111), some (vI p1), some (vI p2), some (vI p3)], [], σ1))) rfl ?_
  refine run_ite hf (fun _ hf => ?_) (fun _ hf => ?_)
  · exact r_M_poly_17 hf
  · refine run_seg (k := 2) (s' := (11, [some (vR 111), some (vI p1), some (vI p2), some (vI p3)], [vI p1, vR 111], σ1)) rfl ?_
    refine run_callN (w := fun a => some (vI a)) (m := 248) (as := [vR 111, vI p1]) (pc := 14) (ls := [some (vR 111), some (vI p1), some (vI p2), some (vI p3)]) (st' := []) (σ := σ1) hf rfl (fun _ h => (c_M_isEnd h).mono (by decide)) (fun r2 hf => ?_)
    refine run_seg (k := 1) (s' := (if r2 = 0 then (43, [some (vR 111), some (vI p1), some (vI p2), some (vI p3)], [], σ1) else (17, [some (vR 111), some (vI p1), some (vI p2), some (vI p3)], [], σ1))) rfl ?_
    refine run_ite hf (fun _ hf => ?_) (fun _ hf => ?_)
    · exact r_M_poly_43 hf
    · exact r_M_poly_17 hf
