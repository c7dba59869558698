/-! printed by wip/whole/all16.py: what the methods compute, and that the reader does so -/
/-- BentPenny.best()I -/
def f_X_best (σ : xSt) : Option (Int × xSt) :=
  xbW (f_Best_search σ) fun r1 σ2 =>
  some (r1, σ2)
theorem c_X_best {σ : xSt} {r : Int × xSt} (hf : f_X_best σ = some r) : Call (4 + 1) 191 [vR 0] σ (tIW r).1 (tIW r).2 := by
  unfold f_X_best at hf
  refine call_of (own := 11) (rk := 1) (cd := kX11_best) (ls := [some (vR 0)]) (rT := tIW) rfl rfl rfl rfl rfl ?_
  refine run_seg (k := 5) (s' := (11, [some (vR 0)], [vR 7, vR 105], σ)) rfl ?_
  refine run_callW (w := fun a => some (vI a)) (m := 1) (as := [vR 105, vR 7]) (pc := 14) (ls := [some (vR 0)]) (st' := []) (σ := σ) hf rfl (fun _ _ h => (c_Best_search h).mono (by decide)) (fun r1 σ2 hf => ?_)
  exact run_ret hf rfl
/-- BentPenny.bestMean(I)J -/
def f_X_bestMean (p1 : Int) (σ : xSt) : Option (Option Int × xSt) :=
  if σ 106 0 = 0 then (some (none, σ))
  else (xbR (f_X_isWithin p1 2 σ) fun r1 =>
  if r1 = 0 then (some (none, σ))
  else (xbR (f_Fraction_part 106 p1 σ) fun r2 =>
  some (some r2, σ)))
theorem c_X_bestMean {p1 : Int} {σ : xSt} {r : Option Int × xSt} (hf : f_X_bestMean p1 σ = some r) : Call (1 + 1) 192 [vR 0, vI p1] σ (tXL r).1 (tXL r).2 := by
  unfold f_X_bestMean at hf
  refine call_of (own := 11) (rk := 3) (cd := kX11_bestMean) (ls := [some (vR 0), some (vI p1)]) (rT := tXL) rfl rfl rfl rfl rfl ?_
  refine run_seg (k := 5) (s' := (if σ 106 0 = 0 then (21, [some (vR 0), some (vI p1)], [], σ) else (13, [some (vR 0), some (vI p1)], [], σ))) rfl ?_
  refine run_ite hf (fun _ hf => ?_) (fun _ hf => ?_)
  · exact run_ret hf rfl
  · refine run_seg (k := 2) (s' := (15, [some (vR 0), some (vI p1)], [vI 2, vI p1], σ)) rfl ?_
    refine run_callN (w := fun a => some (vI a)) (m := 207) (as := [vI p1, vI 2]) (pc := 18) (ls := [some (vR 0), some (vI p1)]) (st' := []) (σ := σ) hf rfl (fun _ h => (c_X_isWithin h).mono (by decide)) (fun r1 hf => ?_)
    refine run_seg (k := 1) (s' := (if r1 = 0 then (21, [some (vR 0), some (vI p1)], [], σ) else (29, [some (vR 0), some (vI p1)], [], σ))) rfl ?_
    refine run_ite hf (fun _ hf => ?_) (fun _ hf => ?_)
    · exact run_ret hf rfl
    · refine run_seg (k := 4) (s' := (37, [some (vR 0), some (vI p1)], [vI p1, vR 106], σ)) rfl ?_
      refine run_callN (w := fun a => some (vL a)) (m := 29) (as := [vR 106, vI p1]) (pc := 40) (ls := [some (vR 0), some (vI p1)]) (st' := []) (σ := σ) hf rfl (fun _ h => (c_Fraction_part_106 h).mono (by decide)) (fun r2 hf => ?_)
      exact run_ret hf rfl
/-- BentPenny$Best.buildLeaf(LBentPenny$Way;III)V -/
def f_Best_buildLeaf (p1 : Int) (p2 : Int) (p3 : Int) (σ : xSt) : Option (xSt) :=
  if p3 = 2 then (xbW (f_Way_add 16 1 (-1) p1 p2 σ) fun r1 σ2 =>
  some σ2)
  else (xbW (f_Way_add 16 0 p3 p1 p2 σ) fun r3 σ4 =>
  some σ4)
theorem c_Best_buildLeaf {p1 : Int} {p2 : Int} {p3 : Int} {σ : xSt} {r : xSt} (hf : f_Best_buildLeaf p1 p2 p3 σ = some r) : Call (2 + 1) 11 [vR 16, vI p1, vI p2, vI p3] σ (tV r).1 (tV r).2 := by
  unfold f_Best_buildLeaf at hf
  refine call_of (own := 0) (rk := 0) (cd := kX0_buildLeaf) (ls := [some (vR 16), some (vI p1), some (vI p2), some (vI p3)]) (rT := tV) rfl rfl rfl rfl rfl ?_
  refine run_seg (k := 3) (s' := (if p3 = 2 then (5, [some (vR 16), some (vI p1), some (vI p2), some (vI p3)], [], σ) else (17, [some (vR 16), some (vI p1), some (vI p2), some (vI p3)], [], σ))) rfl ?_
  refine run_ite hf (fun _ hf => ?_) (fun _ hf => ?_)
  · refine run_seg (k := 5) (s' := (10, [some (vR 16), some (vI p1), some (vI p2), some (vI p3)], [vI p2, vI p1, vI (-1), vI 1, vR 16], σ)) rfl ?_
    refine run_callW (w := fun a => some (vI a)) (m := 140) (as := [vR 16, vI 1, vI (-1), vI p1, vI p2]) (pc := 13) (ls := [some (vR 16), some (vI p1), some (vI p2), some (vI p3)]) (st' := []) (σ := σ) hf rfl (fun _ _ h => (c_Way_add_16 h).mono (by decide)) (fun r1 σ2 hf => ?_)
    refine run_seg (k := 2) (s' := (26, [some (vR 16), some (vI p1), some (vI p2), some (vI p3)], [], σ2)) rfl ?_
    exact run_ret hf rfl
  · refine run_seg (k := 5) (s' := (22, [some (vR 16), some (vI p1), some (vI p2), some (vI p3)], [vI p2, vI p1, vI p3, vI 0, vR 16], σ)) rfl ?_
    refine run_callW (w := fun a => some (vI a)) (m := 140) (as := [vR 16, vI 0, vI p3, vI p1, vI p2]) (pc := 25) (ls := [some (vR 16), some (vI p1), some (vI p2), some (vI p3)]) (st' := []) (σ := σ) hf rfl (fun _ _ h => (c_Way_add_16 h).mono (by decide)) (fun r3 σ4 hf => ?_)
    refine run_seg (k := 1) (s' := (26, [some (vR 16), some (vI p1), some (vI p2), some (vI p3)], [], σ4)) rfl ?_
    exact run_ret hf rfl
/-- BentPenny$Best.buildSide(LBentPenny$Way;III)V -/
def f_Best_buildSide (p1 : Int) (p2 : Int) (p3 : Int) (σ : xSt) : Option (xSt) :=
  if p3 < 3 then (xbR (f_Best_buildLeaf p1 p2 p3 σ) fun σ1 =>
  some σ1)
  else (xbR (f_Best_secondCoin p3 σ) fun r2 =>
  xbW (f_Way_add 16 2 r2 p1 p2 σ) fun r3 σ4 =>
  xbR (f_Best_leafOn p3 0 σ4) fun r5 =>
  xbR (f_Best_buildLeaf r3 0 r5 σ4) fun σ6 =>
  xbR (f_Best_leafOn p3 1 σ6) fun r7 =>
  xbR (f_Best_buildLeaf r3 1 r7 σ6) fun σ8 =>
  some σ8)
theorem c_Best_buildSide {p1 : Int} {p2 : Int} {p3 : Int} {σ : xSt} {r : xSt} (hf : f_Best_buildSide p1 p2 p3 σ = some r) : Call (3 + 1) 10 [vR 16, vI p1, vI p2, vI p3] σ (tV r).1 (tV r).2 := by
  unfold f_Best_buildSide at hf
  refine call_of (own := 0) (rk := 0) (cd := kX0_buildSide) (ls := [some (vR 16), some (vI p1), some (vI p2), some (vI p3), none]) (rT := tV) rfl rfl rfl rfl rfl ?_
  refine run_seg (k := 3) (s' := (if p3 < 3 then (5, [some (vR 16), some (vI p1), some (vI p2), some (vI p3), none], [], σ) else (13, [some (vR 16), some (vI p1), some (vI p2), some (vI p3), none], [], σ))) rfl ?_
  refine run_ite hf (fun _ hf => ?_) (fun _ hf => ?_)
  · refine run_seg (k := 4) (s' := (9, [some (vR 16), some (vI p1), some (vI p2), some (vI p3), none], [vI p3, vI p2, vI p1, vR 16], σ)) rfl ?_
    refine run_callV (m := 11) (as := [vR 16, vI p1, vI p2, vI p3]) (pc := 12) (ls := [some (vR 16), some (vI p1), some (vI p2), some (vI p3), none]) (st' := []) (σ := σ) hf rfl (fun _ h => (c_Best_buildLeaf h).mono (by decide)) (fun σ1 hf => ?_)
    exact run_ret hf rfl
  · refine run_seg (k := 3) (s' := (16, [some (vR 16), some (vI p1), some (vI p2), some (vI p3), none], [vI p3, vI 2, vR 16], σ)) rfl ?_
    refine run_callN (w := fun a => some (vI a)) (m := 5) (as := [vI p3]) (pc := 19) (ls := [some (vR 16), some (vI p1), some (vI p2), some (vI p3), none]) (st' := [vI 2, vR 16]) (σ := σ) hf rfl (fun _ h => (c_Best_secondCoin h).mono (by decide)) (fun r2 hf => ?_)
    refine run_seg (k := 2) (s' := (21, [some (vR 16), some (vI p1), some (vI p2), some (vI p3), none], [vI p2, vI p1, vI r2, vI 2, vR 16], σ)) rfl ?_
    refine run_callW (w := fun a => some (vI a)) (m := 140) (as := [vR 16, vI 2, vI r2, vI p1, vI p2]) (pc := 24) (ls := [some (vR 16), some (vI p1), some (vI p2), some (vI p3), none]) (st' := []) (σ := σ) hf rfl (fun _ _ h => (c_Way_add_16 h).mono (by decide)) (fun r3 σ4 hf => ?_)
    refine run_seg (k := 6) (s' := (32, [some (vR 16), some (vI p1), some (vI p2), some (vI p3), some (vI r3)], [vI 0, vI p3, vI 0, vI r3, vR 16], σ4)) rfl ?_
    refine run_callN (w := fun a => some (vI a)) (m := 6) (as := [vI p3, vI 0]) (pc := 35) (ls := [some (vR 16), some (vI p1), some (vI p2), some (vI p3), some (vI r3)]) (st' := [vI 0, vI r3, vR 16]) (σ := σ4) hf rfl (fun _ h => (c_Best_leafOn h).mono (by decide)) (fun r5 hf => ?_)
    refine run_callV (m := 11) (as := [vR 16, vI r3, vI 0, vI r5]) (pc := 38) (ls := [some (vR 16), some (vI p1), some (vI p2), some (vI p3), some (vI r3)]) (st' := []) (σ := σ4) hf rfl (fun _ h => (c_Best_buildLeaf h).mono (by decide)) (fun σ6 hf => ?_)
    refine run_seg (k := 5) (s' := (44, [some (vR 16), some (vI p1), some (vI p2), some (vI p3), some (vI r3)], [vI 1, vI p3, vI 1, vI r3, vR 16], σ6)) rfl ?_
    refine run_callN (w := fun a => some (vI a)) (m := 6) (as := [vI p3, vI 1]) (pc := 47) (ls := [some (vR 16), some (vI p1), some (vI p2), some (vI p3), some (vI r3)]) (st' := [vI 1, vI r3, vR 16]) (σ := σ6) hf rfl (fun _ h => (c_Best_leafOn h).mono (by decide)) (fun r7 hf => ?_)
    refine run_callV (m := 11) (as := [vR 16, vI r3, vI 1, vI r7]) (pc := 50) (ls := [some (vR 16), some (vI p1), some (vI p2), some (vI p3), some (vI r3)]) (st' := []) (σ := σ6) hf rfl (fun _ h => (c_Best_buildLeaf h).mono (by decide)) (fun σ8 hf => ?_)
    exact run_ret hf rfl
/-- BentPenny$Best.build(LBentPenny$Way;)V -/
def f_Best_build (σ : xSt) : Option (xSt) :=
  xbR (f_Way_clear 16 σ) fun σ1 =>
  xbW (f_Way_add 16 2 (σ1 105 2) (-1) 0 σ1) fun r2 σ3 =>
  xbR (f_Best_buildSide r2 0 (σ3 105 3) σ3) fun σ4 =>
  xbR (f_Best_buildSide r2 1 (σ4 105 4) σ4) fun σ5 =>
  xbR (f_Best_thrownAfter (σ5 105 3) σ5) fun r6 =>
  xbR (f_Best_thrownAfter (σ5 105 4) σ5) fun r7 =>
  xlet (upS σ5 16 1 (w32 (1 + (xmax r6 r7)))) fun σ8 =>
  some σ8
theorem c_Best_build {σ : xSt} {r : xSt} (hf : f_Best_build σ = some r) : Call (4 + 1) 9 [vR 105, vR 16] σ (tV r).1 (tV r).2 := by
  unfold f_Best_build at hf
  refine call_of (own := 0) (rk := 0) (cd := kX0_build) (ls := [some (vR 105), some (vR 16), none]) (rT := tV) rfl rfl rfl rfl rfl ?_
  refine run_seg (k := 1) (s' := (1, [some (vR 105), some (vR 16), none], [vR 16], σ)) rfl ?_
  refine run_callV (m := 127) (as := [vR 16]) (pc := 4) (ls := [some (vR 105), some (vR 16), none]) (st' := []) (σ := σ) hf rfl (fun _ h => (c_Way_clear_16 h).mono (by decide)) (fun σ1 hf => ?_)
  refine run_seg (k := 6) (s' := (12, [some (vR 105), some (vR 16), none], [vI 0, vI (-1), vI (σ1 105 2), vI 2, vR 16], σ1)) rfl ?_
  refine run_callW (w := fun a => some (vI a)) (m := 140) (as := [vR 16, vI 2, vI (σ1 105 2), vI (-1), vI 0]) (pc := 15) (ls := [some (vR 105), some (vR 16), none]) (st' := []) (σ := σ1) hf rfl (fun _ _ h => (c_Way_add_16 h).mono (by decide)) (fun r2 σ3 hf => ?_)
  refine run_seg (k := 6) (s' := (23, [some (vR 105), some (vR 16), some (vI r2)], [vI (σ3 105 3), vI 0, vI r2, vR 16], σ3)) rfl ?_
  refine run_callV (m := 10) (as := [vR 16, vI r2, vI 0, vI (σ3 105 3)]) (pc := 26) (ls := [some (vR 105), some (vR 16), some (vI r2)]) (st' := []) (σ := σ3) hf rfl (fun _ h => (c_Best_buildSide h).mono (by decide)) (fun σ4 hf => ?_)
  refine run_seg (k := 5) (s' := (33, [some (vR 105), some (vR 16), some (vI r2)], [vI (σ4 105 4), vI 1, vI r2, vR 16], σ4)) rfl ?_
  refine run_callV (m := 10) (as := [vR 16, vI r2, vI 1, vI (σ4 105 4)]) (pc := 36) (ls := [some (vR 105), some (vR 16), some (vI r2)]) (st' := []) (σ := σ4) hf rfl (fun _ h => (c_Best_buildSide h).mono (by decide)) (fun σ5 hf => ?_)
  refine run_seg (k := 4) (s' := (42, [some (vR 105), some (vR 16), some (vI r2)], [vI (σ5 105 3), vI 1, vR 16], σ5)) rfl ?_
  refine run_callN (w := fun a => some (vI a)) (m := 4) (as := [vI (σ5 105 3)]) (pc := 45) (ls := [some (vR 105), some (vR 16), some (vI r2)]) (st' := [vI 1, vR 16]) (σ := σ5) hf rfl (fun _ h => (c_Best_thrownAfter h).mono (by decide)) (fun r6 hf => ?_)
  refine run_seg (k := 2) (s' := (49, [some (vR 105), some (vR 16), some (vI r2)], [vI (σ5 105 4), vI r6, vI 1, vR 16], σ5)) rfl ?_
  refine run_callN (w := fun a => some (vI a)) (m := 4) (as := [vI (σ5 105 4)]) (pc := 52) (ls := [some (vR 105), some (vR 16), some (vI r2)]) (st' := [vI r6, vI 1, vR 16]) (σ := σ5) hf rfl (fun _ h => (c_Best_thrownAfter h).mono (by decide)) (fun r7 hf => ?_)
  refine run_seg (k := 3) (s' := (59, [some (vR 105), some (vR 16), some (vI r2)], [], upS σ5 16 1 (w32 (1 + (xmax r6 r7))))) rfl ?_
  refine run_let (fun σ8 => (59, [some (vR 105), some (vR 16), some (vI r2)], [], σ8)) hf (fun σ8 hf => ?_)
  exact run_ret hf rfl
/-- BentPenny.take()Z -/
def f_X_take (σ : xSt) : Option (Int × xSt) :=
  if σ 106 0 = 0 then (some (0, σ))
  else (if σ 105 1 = σ 7 0 then (xbR (f_Best_build σ) fun σ1 =>
  some (1, σ1))
  else (some (0, σ)))
theorem c_X_take {σ : xSt} {r : Int × xSt} (hf : f_X_take σ = some r) : Call (5 + 1) 193 [vR 0] σ (tIW r).1 (tIW r).2 := by
  unfold f_X_take at hf
  refine call_of (own := 11) (rk := 2) (cd := kX11_take) (ls := [some (vR 0)]) (rT := tIW) rfl rfl rfl rfl rfl ?_
  refine run_seg (k := 5) (s' := (if σ 106 0 = 0 then (33, [some (vR 0)], [], σ) else (13, [some (vR 0)], [], σ))) rfl ?_
  refine run_ite hf (fun _ hf => ?_) (fun _ hf => ?_)
  · refine run_seg (k := 1) (s' := (34, [some (vR 0)], [vI 0], σ)) rfl ?_
    exact run_ret hf rfl
  · refine run_seg (k := 8) (s' := (if σ 105 1 = σ 7 0 then (35, [some (vR 0)], [], σ) else (33, [some (vR 0)], [], σ))) rfl ?_
    refine run_ite hf (fun _ hf => ?_) (fun _ hf => ?_)
    · refine run_seg (k := 5) (s' := (46, [some (vR 0)], [vR 16, vR 105], σ)) rfl ?_
      refine run_callV (m := 9) (as := [vR 105, vR 16]) (pc := 49) (ls := [some (vR 0)]) (st' := []) (σ := σ) hf rfl (fun _ h => (c_Best_build h).mono (by decide)) (fun σ1 hf => ?_)
      refine run_seg (k := 1) (s' := (50, [some (vR 0)], [vI 1], σ1)) rfl ?_
      exact run_ret hf rfl
    · refine run_seg (k := 1) (s' := (34, [some (vR 0)], [vI 0], σ)) rfl ?_
      exact run_ret hf rfl
/-- BentPenny$Way.put([BII)I -/
def f_Way_put (p1 : Int) (p2 : Int) (σ : xSt) : Option (Int × xSt) :=
  xbR (f_X_isWithin p1 600 σ) fun r1 =>
  if r1 = 0 then (some (p1, σ))
  else (if 0 ≤ p1 ∧ p1 < 600 then (
  xlet (upS σ 110 p1.toNat (w8 (w8 p2))) fun σ2 =>
  some (w32 (p1 + 1), σ2)) else none)
theorem c_Way_put {p1 : Int} {p2 : Int} {σ : xSt} {r : Int × xSt} (hf : f_Way_put p1 p2 σ = some r) : Call (1 + 1) 142 [vR 110, vI p1, vI p2] σ (tIW r).1 (tIW r).2 := by
  unfold f_Way_put at hf
  refine call_of (own := 10) (rk := 1) (cd := kX10_put) (ls := [some (vR 110), some (vI p1), some (vI p2)]) (rT := tIW) rfl rfl rfl rfl rfl ?_
  refine run_seg (k := 3) (s' := (3, [some (vR 110), some (vI p1), some (vI p2)], [vI 600, vI p1], σ)) rfl ?_
  refine run_callN (w := fun a => some (vI a)) (m := 207) (as := [vI p1, vI 600]) (pc := 6) (ls := [some (vR 110), some (vI p1), some (vI p2)]) (st' := []) (σ := σ) hf rfl (fun _ h => (c_X_isWithin h).mono (by decide)) (fun r1 hf => ?_)
  refine run_seg (k := 1) (s' := (if r1 = 0 then (9, [some (vR 110), some (vI p1), some (vI p2)], [], σ) else (11, [some (vR 110), some (vI p1), some (vI p2)], [], σ))) rfl ?_
  refine run_ite hf (fun _ hf => ?_) (fun _ hf => ?_)
  · refine run_seg (k := 1) (s' := (10, [some (vR 110), some (vI p1), some (vI p2)], [vI p1], σ)) rfl ?_
    exact run_ret hf rfl
  · refine run_seg (k := 4) (s' := (15, [some (vR 110), some (vI p1), some (vI p2)], [vI (w8 p2), vI p1, vR 110], σ)) rfl ?_
    refine run_guard (s' := (16, [some (vR 110), some (vI p1), some (vI p2)], [], upS σ 110 p1.toNat (w8 (w8 p2)))) hf rfl (fun hf => ?_)
    refine run_let (fun σ2 => (16, [some (vR 110), some (vI p1), some (vI p2)], [], σ2)) hf (fun σ2 hf => ?_)
    refine run_seg (k := 3) (s' := (19, [some (vR 110), some (vI p1), some (vI p2)], [vI (w32 (p1 + 1))], σ2)) rfl ?_
    exact run_ret hf rfl
def f_Way_putName_6 : Nat → Int → Int → Int → xSt → Option (Int × xSt)
  | 0, _, _, _, _ => none
  | n + 1, l2, l3, l4, σ =>
    if l4 < 0 then (some (l3, σ))
    else (xlet (xand (xshr l2 l4) 31) fun x1 =>
    if x1 = 0 then (xlet (w32 (l4 + (-5))) fun x2 =>
    f_Way_putName_6 n l2 l3 x2 σ)
    else (xbW (f_Way_put l3 (w32 (96 + x1)) σ) fun r3 σ4 =>
    xlet (w32 (l4 + (-5))) fun x5 =>
    f_Way_putName_6 n l2 r3 x5 σ4))
/-- BentPenny$Way.putName([BII)I -/
def f_Way_putName (p1 : Int) (p2 : Int) (σ : xSt) : Option (Int × xSt) :=
  f_Way_putName_6 1000000 p2 p1 25 σ
theorem r_Way_putName_6 : ∀ (n : Nat) {l2 : Int} {l3 : Int} {l4 : Int} {g1 : Option xV} {g5 : Option xV} {σ : xSt} {r : Int × xSt}, f_Way_putName_6 n l2 l3 l4 σ = some r → Run 2 10 1 kX10_putName (6, [some (vR 110), g1, some (vI l2), some (vI l3), some (vI l4), g5], [], σ) (tIW r) := by
  intro n
  induction n with
  | zero =>
    intro _ _ _ _ _ _ _ h
    exact nomatch (show (none : Option (Int × xSt)) = some _ from h)
  | succ n ih =>
    intro l2 l3 l4 g1 g5 σ r hf
    unfold f_Way_putName_6 at hf
    refine run_seg (k := 2) (s' := (if l4 < 0 then (42, [some (vR 110), g1, some (vI l2), some (vI l3), some (vI l4), g5], [], σ) else (11, [some (vR 110), g1, some (vI l2), some (vI l3), some (vI l4), g5], [], σ))) rfl ?_
    refine run_ite hf (fun _ hf => ?_) (fun _ hf => ?_)
    · refine run_seg (k := 1) (s' := (43, [some (vR 110), g1, some (vI l2), some (vI l3), some (vI l4), g5], [vI l3], σ)) rfl ?_
      exact run_ret hf rfl
    · refine run_seg (k := 6) (s' := (20, [some (vR 110), g1, some (vI l2), some (vI l3), some (vI l4), some (vI (xand (xshr l2 l4) 31))], [], σ)) rfl ?_
      refine run_let (fun x1 => (20, [some (vR 110), g1, some (vI l2), some (vI l3), some (vI l4), some (vI x1)], [], σ)) hf (fun x1 hf => ?_)
      refine run_seg (k := 2) (s' := (if x1 = 0 then (36, [some (vR 110), g1, some (vI l2), some (vI l3), some (vI l4), some (vI x1)], [], σ) else (25, [some (vR 110), g1, some (vI l2), some (vI l3), some (vI l4), some (vI x1)], [], σ))) rfl ?_
      refine run_ite hf (fun _ hf => ?_) (fun _ hf => ?_)
      · refine run_seg (k := 1) (s' := (39, [some (vR 110), g1, some (vI l2), some (vI l3), some (vI (w32 (l4 + (-5)))), some (vI x1)], [], σ)) rfl ?_
        refine run_let (fun x2 => (39, [some (vR 110), g1, some (vI l2), some (vI l3), some (vI x2), some (vI x1)], [], σ)) hf (fun x2 hf => ?_)
        refine run_seg (k := 1) (s' := (6, [some (vR 110), g1, some (vI l2), some (vI l3), some (vI x2), some (vI x1)], [], σ)) rfl ?_
        exact ih hf
      · refine run_seg (k := 5) (s' := (32, [some (vR 110), g1, some (vI l2), some (vI l3), some (vI l4), some (vI x1)], [vI (w32 (96 + x1)), vI l3, vR 110], σ)) rfl ?_
        refine run_callW (w := fun a => some (vI a)) (m := 142) (as := [vR 110, vI l3, vI (w32 (96 + x1))]) (pc := 35) (ls := [some (vR 110), g1, some (vI l2), some (vI l3), some (vI l4), some (vI x1)]) (st' := []) (σ := σ) hf rfl (fun _ _ h => (c_Way_put h).mono (by decide)) (fun r3 σ4 hf => ?_)
        refine run_seg (k := 2) (s' := (39, [some (vR 110), g1, some (vI l2), some (vI r3), some (vI (w32 (l4 + (-5)))), some (vI x1)], [], σ4)) rfl ?_
        refine run_let (fun x5 => (39, [some (vR 110), g1, some (vI l2), some (vI r3), some (vI x5), some (vI x1)], [], σ4)) hf (fun x5 hf => ?_)
        refine run_seg (k := 1) (s' := (6, [some (vR 110), g1, some (vI l2), some (vI r3), some (vI x5), some (vI x1)], [], σ4)) rfl ?_
        exact ih hf
theorem c_Way_putName {p1 : Int} {p2 : Int} {σ : xSt} {r : Int × xSt} (hf : f_Way_putName p1 p2 σ = some r) : Call (2 + 1) 143 [vR 110, vI p1, vI p2] σ (tIW r).1 (tIW r).2 := by
  unfold f_Way_putName at hf
  refine call_of (own := 10) (rk := 1) (cd := kX10_putName) (ls := [some (vR 110), some (vI p1), some (vI p2), none, none, none]) (rT := tIW) rfl rfl rfl rfl rfl ?_
  refine run_seg (k := 4) (s' := (6, [some (vR 110), some (vI p1), some (vI p2), some (vI p1), some (vI 25), none], [], σ)) rfl ?_
  exact r_Way_putName_6 1000000 hf
/-- BentPenny$Table.nameOfEnd(I)I -/
def f_Table_nameOfEnd (p1 : Int) (σ : xSt) : Option (Int) :=
  xbR (f_Table_hasEnd p1 σ) fun r1 =>
  if r1 = 0 then (some 0)
  else (if 0 ≤ p1 ∧ p1 < 6 then (
  some (σ 13 p1.toNat)) else none)
theorem c_Table_nameOfEnd {p1 : Int} {σ : xSt} {r : Int} (hf : f_Table_nameOfEnd p1 σ = some r) : Call (1 + 1) 94 [vR 7, vI p1] σ ((tI σ) r).1 ((tI σ) r).2 := by
  unfold f_Table_nameOfEnd at hf
  refine call_of (own := 8) (rk := 1) (cd := kX8_nameOfEnd) (ls := [some (vR 7), some (vI p1)]) (rT := (tI σ)) rfl rfl rfl rfl rfl ?_
  refine run_seg (k := 2) (s' := (2, [some (vR 7), some (vI p1)], [vI p1, vR 7], σ)) rfl ?_
  refine run_callN (w := fun a => some (vI a)) (m := 85) (as := [vR 7, vI p1]) (pc := 5) (ls := [some (vR 7), some (vI p1)]) (st' := []) (σ := σ) hf rfl (fun _ h => (c_Table_hasEnd h).mono (by decide)) (fun r1 hf => ?_)
  refine run_seg (k := 1) (s' := (if r1 = 0 then (17, [some (vR 7), some (vI p1)], [], σ) else (8, [some (vR 7), some (vI p1)], [], σ))) rfl ?_
  refine run_ite hf (fun _ hf => ?_) (fun _ hf => ?_)
  · refine run_seg (k := 1) (s' := (18, [some (vR 7), some (vI p1)], [vI 0], σ)) rfl ?_
    exact run_ret hf rfl
  · refine run_seg (k := 3) (s' := (13, [some (vR 7), some (vI p1)], [vI p1, vR 13], σ)) rfl ?_
    refine run_guard (s' := (14, [some (vR 7), some (vI p1)], [vI (σ 13 p1.toNat)], σ)) hf rfl (fun hf => ?_)
    refine run_seg (k := 1) (s' := (18, [some (vR 7), some (vI p1)], [vI (σ 13 p1.toNat)], σ)) rfl ?_
    exact run_ret hf rfl
/-- BentPenny$Table.nameOfThing(I)I -/
def f_Table_nameOfThing (p1 : Int) (σ : xSt) : Option (Int) :=
  xbR (f_Table_hasThing p1 σ) fun r1 =>
  if r1 = 0 then (some 0)
  else (if 0 ≤ p1 ∧ p1 < 3 then (
  some (σ 8 p1.toNat)) else none)
theorem c_Table_nameOfThing {p1 : Int} {σ : xSt} {r : Int} (hf : f_Table_nameOfThing p1 σ = some r) : Call (1 + 1) 93 [vR 7, vI p1] σ ((tI σ) r).1 ((tI σ) r).2 := by
  unfold f_Table_nameOfThing at hf
  refine call_of (own := 8) (rk := 1) (cd := kX8_nameOfThing) (ls := [some (vR 7), some (vI p1)]) (rT := (tI σ)) rfl rfl rfl rfl rfl ?_
  refine run_seg (k := 2) (s' := (2, [some (vR 7), some (vI p1)], [vI p1, vR 7], σ)) rfl ?_
  refine run_callN (w := fun a => some (vI a)) (m := 84) (as := [vR 7, vI p1]) (pc := 5) (ls := [some (vR 7), some (vI p1)]) (st' := []) (σ := σ) hf rfl (fun _ h => (c_Table_hasThing h).mono (by decide)) (fun r1 hf => ?_)
  refine run_seg (k := 1) (s' := (if r1 = 0 then (17, [some (vR 7), some (vI p1)], [], σ) else (8, [some (vR 7), some (vI p1)], [], σ))) rfl ?_
  refine run_ite hf (fun _ hf => ?_) (fun _ hf => ?_)
  · refine run_seg (k := 1) (s' := (18, [some (vR 7), some (vI p1)], [vI 0], σ)) rfl ?_
    exact run_ret hf rfl
  · refine run_seg (k := 3) (s' := (13, [some (vR 7), some (vI p1)], [vI p1, vR 8], σ)) rfl ?_
    refine run_guard (s' := (14, [some (vR 7), some (vI p1)], [vI (σ 8 p1.toNat)], σ)) hf rfl (fun hf => ?_)
    refine run_seg (k := 1) (s' := (18, [some (vR 7), some (vI p1)], [vI (σ 8 p1.toNat)], σ)) rfl ?_
    exact run_ret hf rfl
def f_Way_putClosings_10 : Nat → Int → Int → Int → xSt → Option (Int × xSt)
  | 0, _, _, _, _ => none
  | n + 1, l5, l6, l7, σ =>
    if l7 < 6 then (xbR (f_Way_parentOf l6 σ) fun r1 =>
    if r1 = (-1) then (some (l5, σ))
    else (xbR (f_Way_sideTo l6 σ) fun r2 =>
    xbR (f_Way_whichAt r1 σ) fun r3 =>
    xbR (f_Table_sidesOf r3 σ) fun r4 =>
    if r2 = w32 (r4 - 1) then (xbW (f_Way_put l5 41 σ) fun r5 σ6 =>
    xlet (w32 (l7 + 1)) fun x7 =>
    f_Way_putClosings_10 n r5 r1 x7 σ6)
    else (some (l5, σ))))
    else (some (l5, σ))
/-- BentPenny$Way.putClosings([BILBentPenny$Table;I)I -/
def f_Way_putClosings (p2 : Int) (p4 : Int) (σ : xSt) : Option (Int × xSt) :=
  f_Way_putClosings_10 1000000 p2 p4 0 σ
theorem r_Way_putClosings_10 : ∀ (n : Nat) {l5 : Int} {l6 : Int} {l7 : Int} {g2 : Option xV} {g4 : Option xV} {g8 : Option xV} {σ : xSt} {r : Int × xSt}, f_Way_putClosings_10 n l5 l6 l7 σ = some r → Run 2 10 1 kX10_putClosings (10, [some (vR 16), some (vR 110), g2, some (vR 7), g4, some (vI l5), some (vI l6), some (vI l7), g8], [], σ) (tIW r) := by
  intro n
  induction n with
  | zero =>
    intro _ _ _ _ _ _ _ _ h
    exact nomatch (show (none : Option (Int × xSt)) = some _ from h)
  | succ n ih =>
    intro l5 l6 l7 g2 g4 g8 σ r hf
    unfold f_Way_putClosings_10 at hf
    refine run_seg (k := 3) (s' := (if l7 < 6 then (17, [some (vR 16), some (vR 110), g2, some (vR 7), g4, some (vI l5), some (vI l6), some (vI l7), g8], [], σ) else (75, [some (vR 16), some (vR 110), g2, some (vR 7), g4, some (vI l5), some (vI l6), some (vI l7), g8], [], σ))) rfl ?_
    refine run_ite hf (fun _ hf => ?_) (fun _ hf => ?_)
    · refine run_seg (k := 2) (s' := (20, [some (vR 16), some (vR 110), g2, some (vR 7), g4, some (vI l5), some (vI l6), some (vI l7), g8], [vI l6, vR 16], σ)) rfl ?_
      refine run_callN (w := fun a => some (vI a)) (m := 133) (as := [vR 16, vI l6]) (pc := 23) (ls := [some (vR 16), some (vR 110), g2, some (vR 7), g4, some (vI l5), some (vI l6), some (vI l7), g8]) (st' := []) (σ := σ) hf rfl (fun _ h => (c_Way_parentOf h).mono (by decide)) (fun r1 hf => ?_)
      refine run_seg (k := 4) (s' := (if r1 = (-1) then (52, [some (vR 16), some (vR 110), g2, some (vR 7), g4, some (vI l5), some (vI l6), some (vI l7), some (vI r1)], [], σ) else (31, [some (vR 16), some (vR 110), g2, some (vR 7), g4, some (vI l5), some (vI l6), some (vI l7), some (vI r1)], [], σ))) rfl ?_
      refine run_ite hf (fun _ hf => ?_) (fun _ hf => ?_)
      · refine run_seg (k := 1) (s' := (54, [some (vR 16), some (vR 110), g2, some (vR 7), g4, some (vI l5), some (vI l6), some (vI l7), some (vI r1)], [vI l5], σ)) rfl ?_
        exact run_ret hf rfl
      · refine run_seg (k := 2) (s' := (34, [some (vR 16), some (vR 110), g2, some (vR 7), g4, some (vI l5), some (vI l6), some (vI l7), some (vI r1)], [vI l6, vR 16], σ)) rfl ?_
        refine run_callN (w := fun a => some (vI a)) (m := 134) (as := [vR 16, vI l6]) (pc := 37) (ls := [some (vR 16), some (vR 110), g2, some (vR 7), g4, some (vI l5), some (vI l6), some (vI l7), some (vI r1)]) (st' := []) (σ := σ) hf rfl (fun _ h => (c_Way_sideTo h).mono (by decide)) (fun r2 hf => ?_)
        refine run_seg (k := 3) (s' := (41, [some (vR 16), some (vR 110), g2, some (vR 7), g4, some (vI l5), some (vI l6), some (vI l7), some (vI r1)], [vI r1, vR 16, vR 7, vI r2], σ)) rfl ?_
        refine run_callN (w := fun a => some (vI a)) (m := 132) (as := [vR 16, vI r1]) (pc := 44) (ls := [some (vR 16), some (vR 110), g2, some (vR 7), g4, some (vI l5), some (vI l6), some (vI l7), some (vI r1)]) (st' := [vR 7, vI r2]) (σ := σ) hf rfl (fun _ h => (c_Way_whichAt h).mono (by decide)) (fun r3 hf => ?_)
        refine run_callN (w := fun a => some (vI a)) (m := 89) (as := [vR 7, vI r3]) (pc := 47) (ls := [some (vR 16), some (vR 110), g2, some (vR 7), g4, some (vI l5), some (vI l6), some (vI l7), some (vI r1)]) (st' := [vI r2]) (σ := σ) hf rfl (fun _ h => (c_Table_sidesOf h).mono (by decide)) (fun r4 hf => ?_)
        refine run_seg (k := 3) (s' := (if r2 = w32 (r4 - 1) then (55, [some (vR 16), some (vR 110), g2, some (vR 7), g4, some (vI l5), some (vI l6), some (vI l7), some (vI r1)], [], σ) else (52, [some (vR 16), some (vR 110), g2, some (vR 7), g4, some (vI l5), some (vI l6), some (vI l7), some (vI r1)], [], σ))) rfl ?_
        refine run_ite hf (fun _ hf => ?_) (fun _ hf => ?_)
        · refine run_seg (k := 3) (s' := (60, [some (vR 16), some (vR 110), g2, some (vR 7), g4, some (vI l5), some (vI l6), some (vI l7), some (vI r1)], [vI 41, vI l5, vR 110], σ)) rfl ?_
          refine run_callW (w := fun a => some (vI a)) (m := 142) (as := [vR 110, vI l5, vI 41]) (pc := 63) (ls := [some (vR 16), some (vR 110), g2, some (vR 7), g4, some (vI l5), some (vI l6), some (vI l7), some (vI r1)]) (st' := []) (σ := σ) hf rfl (fun _ _ h => (c_Way_put h).mono (by decide)) (fun r5 σ6 hf => ?_)
          refine run_seg (k := 4) (s' := (72, [some (vR 16), some (vR 110), g2, some (vR 7), g4, some (vI r5), some (vI r1), some (vI (w32 (l7 + 1))), some (vI r1)], [], σ6)) rfl ?_
          refine run_let (fun x7 => (72, [some (vR 16), some (vR 110), g2, some (vR 7), g4, some (vI r5), some (vI r1), some (vI x7), some (vI r1)], [], σ6)) hf (fun x7 hf => ?_)
          refine run_seg (k := 1) (s' := (10, [some (vR 16), some (vR 110), g2, some (vR 7), g4, some (vI r5), some (vI r1), some (vI x7), some (vI r1)], [], σ6)) rfl ?_
          exact ih hf
        · refine run_seg (k := 1) (s' := (54, [some (vR 16), some (vR 110), g2, some (vR 7), g4, some (vI l5), some (vI l6), some (vI l7), some (vI r1)], [vI l5], σ)) rfl ?_
          exact run_ret hf rfl
    · refine run_seg (k := 1) (s' := (77, [some (vR 16), some (vR 110), g2, some (vR 7), g4, some (vI l5), some (vI l6), some (vI l7), g8], [vI l5], σ)) rfl ?_
      exact run_ret hf rfl
theorem c_Way_putClosings {p2 : Int} {p4 : Int} {σ : xSt} {r : Int × xSt} (hf : f_Way_putClosings p2 p4 σ = some r) : Call (2 + 1) 144 [vR 16, vR 110, vI p2, vR 7, vI p4] σ (tIW r).1 (tIW r).2 := by
  unfold f_Way_putClosings at hf
  refine call_of (own := 10) (rk := 1) (cd := kX10_putClosings) (ls := [some (vR 16), some (vR 110), some (vI p2), some (vR 7), some (vI p4), none, none, none, none]) (rT := tIW) rfl rfl rfl rfl rfl ?_
  refine run_seg (k := 6) (s' := (10, [some (vR 16), some (vR 110), some (vI p2), some (vR 7), some (vI p4), some (vI p2), some (vI p4), some (vI 0), none], [], σ)) rfl ?_
  exact r_Way_putClosings_10 1000000 hf
def f_Way_tellInto_118 (k5 : (Int → Int → xSt → Option (Int × xSt))) (l3 : Int) (l4 : Int) (σ : xSt) : Option (Int × xSt) :=
  if 0 ≤ l4 ∧ l4 < 80 then (
  if σ 17 l4.toNat = 2 then (xlet (w32 (l4 + 1)) fun x11 =>
  k5 l3 x11 σ)
  else (xbW (f_Way_putClosings l3 l4 σ) fun r12 σ13 =>
  xlet (w32 (l4 + 1)) fun x14 =>
  k5 r12 x14 σ13)) else none
def f_Way_tellInto_49 (k5 : (Int → Int → xSt → Option (Int × xSt))) (l3 : Int) (l4 : Int) (σ : xSt) : Option (Int × xSt) :=
  if 0 ≤ l4 ∧ l4 < 80 then (
  if σ 17 l4.toNat = 1 then (xbW (f_Way_putName l3 1279278 σ) fun r3 σ4 =>
  f_Way_tellInto_118 (k5) r3 l4 σ4)
  else (if 0 ≤ l4 ∧ l4 < 80 then (
  if σ 17 l4.toNat = 0 then (if 0 ≤ l4 ∧ l4 < 80 then (
  xbR (f_Table_nameOfEnd (σ 18 l4.toNat) σ) fun r5 =>
  xbW (f_Way_putName l3 r5 σ) fun r6 σ7 =>
  f_Way_tellInto_118 (k5) r6 l4 σ7) else none)
  else (if 0 ≤ l4 ∧ l4 < 80 then (
  xbR (f_Table_nameOfThing (σ 18 l4.toNat) σ) fun r8 =>
  xbW (f_Way_putName l3 r8 σ) fun r9 σ10 =>
  f_Way_tellInto_118 (k5) r9 l4 σ10) else none)) else none)) else none
def f_Way_tellInto_45 (k5 : (Int → Int → xSt → Option (Int × xSt))) (l4 : Int) (s0 : Int) (s1 : Int) (σ : xSt) : Option (Int × xSt) :=
  xbW (f_Way_put s1 s0 σ) fun r1 σ2 =>
  f_Way_tellInto_49 (k5) r1 l4 σ2
def f_Way_tellInto_5 : Nat → Int → Int → xSt → Option (Int × xSt)
  | 0, _, _, _ => none
  | n + 1, l3, l4, σ =>
    if l4 < σ 16 0 then (if l4 < 80 then (if 0 < l4 then (if 0 ≤ l4 ∧ l4 < 80 then (
    if σ 20 l4.toNat = 0 then (f_Way_tellInto_45 (fun z0 z1 sz => f_Way_tellInto_5 n z0 z1 sz) l4 40 l3 σ)
    else (f_Way_tellInto_45 (fun z0 z1 sz => f_Way_tellInto_5 n z0 z1 sz) l4 58 l3 σ)) else none)
    else (f_Way_tellInto_49 (fun z0 z1 sz => f_Way_tellInto_5 n z0 z1 sz) l3 l4 σ))
    else (some (l3, σ)))
    else (some (l3, σ))
/-- BentPenny$Way.tellInto([BLBentPenny$Table;)I -/
def f_Way_tellInto (σ : xSt) : Option (Int × xSt) :=
  f_Way_tellInto_5 1000000 0 0 σ
theorem r_Way_tellInto_118 {k5 : (Int → Int → xSt → Option (Int × xSt))} (hk5 : ∀ {l3 : Int} {l4 : Int} {σ : xSt} {r : Int × xSt}, k5 l3 l4 σ = some r → Run 3 10 1 kX10_tellInto (5, [some (vR 16), some (vR 110), some (vR 7), some (vI l3), some (vI l4)], [], σ) (tIW r)) {l3 : Int} {l4 : Int} {σ : xSt} {r : Int × xSt} (hf : f_Way_tellInto_118 k5 l3 l4 σ = some r) : Run 3 10 1 kX10_tellInto (118, [some (vR 16), some (vR 110), some (vR 7), some (vI l3), some (vI l4)], [], σ) (tIW r) := by
  unfold f_Way_tellInto_118 at hf
  refine run_seg (k := 3) (s' := (124, [some (vR 16), some (vR 110), some (vR 7), some (vI l3), some (vI l4)], [vI l4, vR 17], σ)) rfl ?_
  refine run_guard (s' := (125, [some (vR 16), some (vR 110), some (vR 7), some (vI l3), some (vI l4)], [vI (σ 17 l4.toNat)], σ)) hf rfl (fun hf => ?_)
  refine run_seg (k := 2) (s' := (if σ 17 l4.toNat = 2 then (139, [some (vR 16), some (vR 110), some (vR 7), some (vI l3), some (vI l4)], [], σ) else (129, [some (vR 16), some (vR 110), some (vR 7), some (vI l3), some (vI l4)], [], σ))) rfl ?_
  refine run_ite hf (fun _ hf => ?_) (fun _ hf => ?_)
  · refine run_seg (k := 1) (s' := (142, [some (vR 16), some (vR 110), some (vR 7), some (vI l3), some (vI (w32 (l4 + 1)))], [], σ)) rfl ?_
    refine run_let (fun x11 => (142, [some (vR 16), some (vR 110), some (vR 7), some (vI l3), some (vI x11)], [], σ)) hf (fun x11 hf => ?_)
    refine run_seg (k := 1) (s' := (5, [some (vR 16), some (vR 110), some (vR 7), some (vI l3), some (vI x11)], [], σ)) rfl ?_
    exact hk5 hf
  · refine run_seg (k := 5) (s' := (135, [some (vR 16), some (vR 110), some (vR 7), some (vI l3), some (vI l4)], [vI l4, vR 7, vI l3, vR 110, vR 16], σ)) rfl ?_
    refine run_callW (w := fun a => some (vI a)) (m := 144) (as := [vR 16, vR 110, vI l3, vR 7, vI l4]) (pc := 138) (ls := [some (vR 16), some (vR 110), some (vR 7), some (vI l3), some (vI l4)]) (st' := []) (σ := σ) hf rfl (fun _ _ h => (c_Way_putClosings h).mono (by decide)) (fun r12 σ13 hf => ?_)
    refine run_seg (k := 2) (s' := (142, [some (vR 16), some (vR 110), some (vR 7), some (vI r12), some (vI (w32 (l4 + 1)))], [], σ13)) rfl ?_
    refine run_let (fun x14 => (142, [some (vR 16), some (vR 110), some (vR 7), some (vI r12), some (vI x14)], [], σ13)) hf (fun x14 hf => ?_)
    refine run_seg (k := 1) (s' := (5, [some (vR 16), some (vR 110), some (vR 7), some (vI r12), some (vI x14)], [], σ13)) rfl ?_
    exact hk5 hf
theorem r_Way_tellInto_49 {k5 : (Int → Int → xSt → Option (Int × xSt))} (hk5 : ∀ {l3 : Int} {l4 : Int} {σ : xSt} {r : Int × xSt}, k5 l3 l4 σ = some r → Run 3 10 1 kX10_tellInto (5, [some (vR 16), some (vR 110), some (vR 7), some (vI l3), some (vI l4)], [], σ) (tIW r)) {l3 : Int} {l4 : Int} {σ : xSt} {r : Int × xSt} (hf : f_Way_tellInto_49 k5 l3 l4 σ = some r) : Run 3 10 1 kX10_tellInto (49, [some (vR 16), some (vR 110), some (vR 7), some (vI l3), some (vI l4)], [], σ) (tIW r) := by
  unfold f_Way_tellInto_49 at hf
  refine run_seg (k := 3) (s' := (55, [some (vR 16), some (vR 110), some (vR 7), some (vI l3), some (vI l4)], [vI l4, vR 17], σ)) rfl ?_
  refine run_guard (s' := (56, [some (vR 16), some (vR 110), some (vR 7), some (vI l3), some (vI l4)], [vI (σ 17 l4.toNat)], σ)) hf rfl (fun hf => ?_)
  refine run_seg (k := 2) (s' := (if σ 17 l4.toNat = 1 then (60, [some (vR 16), some (vR 110), some (vR 7), some (vI l3), some (vI l4)], [], σ) else (71, [some (vR 16), some (vR 110), some (vR 7), some (vI l3), some (vI l4)], [], σ))) rfl ?_
  refine run_ite hf (fun _ hf => ?_) (fun _ hf => ?_)
  · refine run_seg (k := 3) (s' := (64, [some (vR 16), some (vR 110), some (vR 7), some (vI l3), some (vI l4)], [vI 1279278, vI l3, vR 110], σ)) rfl ?_
    refine run_callW (w := fun a => some (vI a)) (m := 143) (as := [vR 110, vI l3, vI 1279278]) (pc := 67) (ls := [some (vR 16), some (vR 110), some (vR 7), some (vI l3), some (vI l4)]) (st' := []) (σ := σ) hf rfl (fun _ _ h => (c_Way_putName h).mono (by decide)) (fun r3 σ4 hf => ?_)
    refine run_seg (k := 2) (s' := (118, [some (vR 16), some (vR 110), some (vR 7), some (vI r3), some (vI l4)], [], σ4)) rfl ?_
    exact r_Way_tellInto_118 (hk5) hf
  · refine run_seg (k := 3) (s' := (77, [some (vR 16), some (vR 110), some (vR 7), some (vI l3), some (vI l4)], [vI l4, vR 17], σ)) rfl ?_
    refine run_guard (s' := (78, [some (vR 16), some (vR 110), some (vR 7), some (vI l3), some (vI l4)], [vI (σ 17 l4.toNat)], σ)) hf rfl (fun hf => ?_)
    refine run_seg (k := 1) (s' := (if σ 17 l4.toNat = 0 then (81, [some (vR 16), some (vR 110), some (vR 7), some (vI l3), some (vI l4)], [], σ) else (101, [some (vR 16), some (vR 110), some (vR 7), some (vI l3), some (vI l4)], [], σ))) rfl ?_
    refine run_ite hf (fun _ hf => ?_) (fun _ hf => ?_)
    · refine run_seg (k := 6) (s' := (90, [some (vR 16), some (vR 110), some (vR 7), some (vI l3), some (vI l4)], [vI l4, vR 18, vR 7, vI l3, vR 110], σ)) rfl ?_
      refine run_guard (s' := (91, [some (vR 16), some (vR 110), some (vR 7), some (vI l3), some (vI l4)], [vI (σ 18 l4.toNat), vR 7, vI l3, vR 110], σ)) hf rfl (fun hf => ?_)
      refine run_callN (w := fun a => some (vI a)) (m := 94) (as := [vR 7, vI (σ 18 l4.toNat)]) (pc := 94) (ls := [some (vR 16), some (vR 110), some (vR 7), some (vI l3), some (vI l4)]) (st' := [vI l3, vR 110]) (σ := σ) hf rfl (fun _ h => (c_Table_nameOfEnd h).mono (by decide)) (fun r5 hf => ?_)
      refine run_callW (w := fun a => some (vI a)) (m := 143) (as := [vR 110, vI l3, vI r5]) (pc := 97) (ls := [some (vR 16), some (vR 110), some (vR 7), some (vI l3), some (vI l4)]) (st' := []) (σ := σ) hf rfl (fun _ _ h => (c_Way_putName h).mono (by decide)) (fun r6 σ7 hf => ?_)
      refine run_seg (k := 2) (s' := (118, [some (vR 16), some (vR 110), some (vR 7), some (vI r6), some (vI l4)], [], σ7)) rfl ?_
      exact r_Way_tellInto_118 (hk5) hf
    · refine run_seg (k := 6) (s' := (110, [some (vR 16), some (vR 110), some (vR 7), some (vI l3), some (vI l4)], [vI l4, vR 18, vR 7, vI l3, vR 110], σ)) rfl ?_
      refine run_guard (s' := (111, [some (vR 16), some (vR 110), some (vR 7), some (vI l3), some (vI l4)], [vI (σ 18 l4.toNat), vR 7, vI l3, vR 110], σ)) hf rfl (fun hf => ?_)
      refine run_callN (w := fun a => some (vI a)) (m := 93) (as := [vR 7, vI (σ 18 l4.toNat)]) (pc := 114) (ls := [some (vR 16), some (vR 110), some (vR 7), some (vI l3), some (vI l4)]) (st' := [vI l3, vR 110]) (σ := σ) hf rfl (fun _ h => (c_Table_nameOfThing h).mono (by decide)) (fun r8 hf => ?_)
      refine run_callW (w := fun a => some (vI a)) (m := 143) (as := [vR 110, vI l3, vI r8]) (pc := 117) (ls := [some (vR 16), some (vR 110), some (vR 7), some (vI l3), some (vI l4)]) (st' := []) (σ := σ) hf rfl (fun _ _ h => (c_Way_putName h).mono (by decide)) (fun r9 σ10 hf => ?_)
      refine run_seg (k := 1) (s' := (118, [some (vR 16), some (vR 110), some (vR 7), some (vI r9), some (vI l4)], [], σ10)) rfl ?_
      exact r_Way_tellInto_118 (hk5) hf
theorem r_Way_tellInto_45 {k5 : (Int → Int → xSt → Option (Int × xSt))} (hk5 : ∀ {l3 : Int} {l4 : Int} {σ : xSt} {r : Int × xSt}, k5 l3 l4 σ = some r → Run 3 10 1 kX10_tellInto (5, [some (vR 16), some (vR 110), some (vR 7), some (vI l3), some (vI l4)], [], σ) (tIW r)) {l4 : Int} {s0 : Int} {s1 : Int} {g3 : Option xV} {σ : xSt} {r : Int × xSt} (hf : f_Way_tellInto_45 k5 l4 s0 s1 σ = some r) : Run 3 10 1 kX10_tellInto (45, [some (vR 16), some (vR 110), some (vR 7), g3, some (vI l4)], [vI s0, vI s1, vR 110], σ) (tIW r) := by
  unfold f_Way_tellInto_45 at hf
  refine run_callW (w := fun a => some (vI a)) (m := 142) (as := [vR 110, vI s1, vI s0]) (pc := 48) (ls := [some (vR 16), some (vR 110), some (vR 7), g3, some (vI l4)]) (st' := []) (σ := σ) hf rfl (fun _ _ h => (c_Way_put h).mono (by decide)) (fun r1 σ2 hf => ?_)
  refine run_seg (k := 1) (s' := (49, [some (vR 16), some (vR 110), some (vR 7), some (vI r1), some (vI l4)], [], σ2)) rfl ?_
  exact r_Way_tellInto_49 (hk5) hf
theorem r_Way_tellInto_5 : ∀ (n : Nat) {l3 : Int} {l4 : Int} {σ : xSt} {r : Int × xSt}, f_Way_tellInto_5 n l3 l4 σ = some r → Run 3 10 1 kX10_tellInto (5, [some (vR 16), some (vR 110), some (vR 7), some (vI l3), some (vI l4)], [], σ) (tIW r) := by
  intro n
  induction n with
  | zero =>
    intro _ _ _ _ h
    exact nomatch (show (none : Option (Int × xSt)) = some _ from h)
  | succ n ih =>
    intro l3 l4 σ r hf
    unfold f_Way_tellInto_5 at hf
    refine run_seg (k := 4) (s' := (if l4 < σ 16 0 then (14, [some (vR 16), some (vR 110), some (vR 7), some (vI l3), some (vI l4)], [], σ) else (145, [some (vR 16), some (vR 110), some (vR 7), some (vI l3), some (vI l4)], [], σ))) rfl ?_
    refine run_ite hf (fun _ hf => ?_) (fun _ hf => ?_)
    · refine run_seg (k := 3) (s' := (if l4 < 80 then (21, [some (vR 16), some (vR 110), some (vR 7), some (vI l3), some (vI l4)], [], σ) else (145, [some (vR 16), some (vR 110), some (vR 7), some (vI l3), some (vI l4)], [], σ))) rfl ?_
      refine run_ite hf (fun _ hf => ?_) (fun _ hf => ?_)
      · refine run_seg (k := 2) (s' := (if 0 < l4 then (26, [some (vR 16), some (vR 110), some (vR 7), some (vI l3), some (vI l4)], [], σ) else (49, [some (vR 16), some (vR 110), some (vR 7), some (vI l3), some (vI l4)], [], σ))) rfl ?_
        refine run_ite hf (fun _ hf => ?_) (fun _ hf => ?_)
        · refine run_seg (k := 5) (s' := (34, [some (vR 16), some (vR 110), some (vR 7), some (vI l3), some (vI l4)], [vI l4, vR 20, vI l3, vR 110], σ)) rfl ?_
          refine run_guard (s' := (35, [some (vR 16), some (vR 110), some (vR 7), some (vI l3), some (vI l4)], [vI (σ 20 l4.toNat), vI l3, vR 110], σ)) hf rfl (fun hf => ?_)
          refine run_seg (k := 1) (s' := (if σ 20 l4.toNat = 0 then (38, [some (vR 16), some (vR 110), some (vR 7), some (vI l3), some (vI l4)], [vI l3, vR 110], σ) else (43, [some (vR 16), some (vR 110), some (vR 7), some (vI l3), some (vI l4)], [vI l3, vR 110], σ))) rfl ?_
          refine run_ite hf (fun _ hf => ?_) (fun _ hf => ?_)
          · refine run_seg (k := 2) (s' := (45, [some (vR 16), some (vR 110), some (vR 7), some (vI l3), some (vI l4)], [vI 40, vI l3, vR 110], σ)) rfl ?_
            exact r_Way_tellInto_45 (fun h => ih h) hf
          · refine run_seg (k := 1) (s' := (45, [some (vR 16), some (vR 110), some (vR 7), some (vI l3), some (vI l4)], [vI 58, vI l3, vR 110], σ)) rfl ?_
            exact r_Way_tellInto_45 (fun h => ih h) hf
        · exact r_Way_tellInto_49 (fun h => ih h) hf
      · refine run_seg (k := 1) (s' := (146, [some (vR 16), some (vR 110), some (vR 7), some (vI l3), some (vI l4)], [vI l3], σ)) rfl ?_
        exact run_ret hf rfl
    · refine run_seg (k := 1) (s' := (146, [some (vR 16), some (vR 110), some (vR 7), some (vI l3), some (vI l4)], [vI l3], σ)) rfl ?_
      exact run_ret hf rfl
theorem c_Way_tellInto {σ : xSt} {r : Int × xSt} (hf : f_Way_tellInto σ = some r) : Call (3 + 1) 141 [vR 16, vR 110, vR 7] σ (tIW r).1 (tIW r).2 := by
  unfold f_Way_tellInto at hf
  refine call_of (own := 10) (rk := 1) (cd := kX10_tellInto) (ls := [some (vR 16), some (vR 110), some (vR 7), none, none]) (rT := tIW) rfl rfl rfl rfl rfl ?_
  refine run_seg (k := 4) (s' := (5, [some (vR 16), some (vR 110), some (vR 7), some (vI 0), some (vI 0)], [], σ)) rfl ?_
  exact r_Way_tellInto_5 1000000 hf
/-- BentPenny.write()I -/
def f_X_write (σ : xSt) : Option (Int × xSt) :=
  xbR (f_Way_isTold σ) fun r1 =>
  if r1 = 0 then (some ((-1), σ))
  else (xbW (f_Way_tellInto σ) fun r2 σ3 =>
  xlet (upS σ3 0 17 r2) fun σ4 =>
  some (σ4 0 17, σ4))
theorem c_X_write {σ : xSt} {r : Int × xSt} (hf : f_X_write σ = some r) : Call (4 + 1) 194 [vR 0] σ (tIW r).1 (tIW r).2 := by
  unfold f_X_write at hf
  refine call_of (own := 11) (rk := 1) (cd := kX11_write) (ls := [some (vR 0)]) (rT := tIW) rfl rfl rfl rfl rfl ?_
  refine run_seg (k := 3) (s' := (7, [some (vR 0)], [vR 16], σ)) rfl ?_
  refine run_callN (w := fun a => some (vI a)) (m := 129) (as := [vR 16]) (pc := 10) (ls := [some (vR 0)]) (st' := []) (σ := σ) hf rfl (fun _ h => (c_Way_isTold h).mono (by decide)) (fun r1 hf => ?_)
  refine run_seg (k := 1) (s' := (if r1 = 0 then (13, [some (vR 0)], [], σ) else (15, [some (vR 0)], [], σ))) rfl ?_
  refine run_ite hf (fun _ hf => ?_) (fun _ hf => ?_)
  · refine run_seg (k := 1) (s' := (14, [some (vR 0)], [vI (-1)], σ)) rfl ?_
    exact run_ret hf rfl
  · refine run_seg (k := 9) (s' := (34, [some (vR 0)], [vR 7, vR 110, vR 16, vR 0], σ)) rfl ?_
    refine run_callW (w := fun a => some (vI a)) (m := 141) (as := [vR 16, vR 110, vR 7]) (pc := 37) (ls := [some (vR 0)]) (st' := [vR 0]) (σ := σ) hf rfl (fun _ _ h => (c_Way_tellInto h).mono (by decide)) (fun r2 σ3 hf => ?_)
    refine run_seg (k := 1) (s' := (40, [some (vR 0)], [], upS σ3 0 17 r2)) rfl ?_
    refine run_let (fun σ4 => (40, [some (vR 0)], [], σ4)) hf (fun σ4 hf => ?_)
    refine run_seg (k := 2) (s' := (44, [some (vR 0)], [vI (σ4 0 17)], σ4)) rfl ?_
    exact run_ret hf rfl
/-- BentPenny.byteAt(I)I -/
def f_X_byteAt (p1 : Int) (σ : xSt) : Option (Int) :=
  xbR (f_X_isWithin p1 (σ 0 17) σ) fun r1 =>
  if r1 = 0 then (some (-1))
  else (if p1 < 600 then (if 0 ≤ p1 ∧ p1 < 600 then (
  some (σ 110 p1.toNat)) else none)
  else (some (-1)))
theorem c_X_byteAt {p1 : Int} {σ : xSt} {r : Int} (hf : f_X_byteAt p1 σ = some r) : Call (1 + 1) 195 [vR 0, vI p1] σ ((tI σ) r).1 ((tI σ) r).2 := by
  unfold f_X_byteAt at hf
  refine call_of (own := 11) (rk := 1) (cd := kX11_byteAt) (ls := [some (vR 0), some (vI p1)]) (rT := (tI σ)) rfl rfl rfl rfl rfl ?_
  refine run_seg (k := 3) (s' := (5, [some (vR 0), some (vI p1)], [vI (σ 0 17), vI p1], σ)) rfl ?_
  refine run_callN (w := fun a => some (vI a)) (m := 207) (as := [vI p1, vI (σ 0 17)]) (pc := 8) (ls := [some (vR 0), some (vI p1)]) (st' := []) (σ := σ) hf rfl (fun _ h => (c_X_isWithin h).mono (by decide)) (fun r1 hf => ?_)
  refine run_seg (k := 1) (s' := (if r1 = 0 then (29, [some (vR 0), some (vI p1)], [], σ) else (11, [some (vR 0), some (vI p1)], [], σ))) rfl ?_
  refine run_ite hf (fun _ hf => ?_) (fun _ hf => ?_)
  · refine run_seg (k := 1) (s' := (30, [some (vR 0), some (vI p1)], [vI (-1)], σ)) rfl ?_
    exact run_ret hf rfl
  · refine run_seg (k := 5) (s' := (if p1 < 600 then (20, [some (vR 0), some (vI p1)], [], σ) else (29, [some (vR 0), some (vI p1)], [], σ))) rfl ?_
    refine run_ite hf (fun _ hf => ?_) (fun _ hf => ?_)
    · refine run_seg (k := 3) (s' := (25, [some (vR 0), some (vI p1)], [vI p1, vR 110], σ)) rfl ?_
      refine run_guard (s' := (26, [some (vR 0), some (vI p1)], [vI (σ 110 p1.toNat)], σ)) hf rfl (fun hf => ?_)
      refine run_seg (k := 1) (s' := (30, [some (vR 0), some (vI p1)], [vI (σ 110 p1.toNat)], σ)) rfl ?_
      exact run_ret hf rfl
    · refine run_seg (k := 1) (s' := (30, [some (vR 0), some (vI p1)], [vI (-1)], σ)) rfl ?_
      exact run_ret hf rfl
/-- BentPenny.canCast()Z -/
def f_X_canCast (σ : xSt) : Option (Int) :=
  xbR (f_Way_isTold σ) fun r1 =>
  if r1 = 0 then (some 0)
  else (xbR (f_Way_hasThing (σ 7 3) σ) fun r2 =>
  if r2 = 0 then (some 1)
  else (some 0))
theorem c_X_canCast {σ : xSt} {r : Int} (hf : f_X_canCast σ = some r) : Call (3 + 1) 199 [vR 0] σ ((tI σ) r).1 ((tI σ) r).2 := by
  unfold f_X_canCast at hf
  refine call_of (own := 11) (rk := 2) (cd := kX11_canCast) (ls := [some (vR 0)]) (rT := (tI σ)) rfl rfl rfl rfl rfl ?_
  refine run_seg (k := 3) (s' := (7, [some (vR 0)], [vR 16], σ)) rfl ?_
  refine run_callN (w := fun a => some (vI a)) (m := 129) (as := [vR 16]) (pc := 10) (ls := [some (vR 0)]) (st' := []) (σ := σ) hf rfl (fun _ h => (c_Way_isTold h).mono (by decide)) (fun r1 hf => ?_)
  refine run_seg (k := 1) (s' := (if r1 = 0 then (40, [some (vR 0)], [], σ) else (13, [some (vR 0)], [], σ))) rfl ?_
  refine run_ite hf (fun _ hf => ?_) (fun _ hf => ?_)
  · refine run_seg (k := 1) (s' := (41, [some (vR 0)], [vI 0], σ)) rfl ?_
    exact run_ret hf rfl
  · refine run_seg (k := 7) (s' := (30, [some (vR 0)], [vI (σ 7 3), vR 16], σ)) rfl ?_
    refine run_callN (w := fun a => some (vI a)) (m := 138) (as := [vR 16, vI (σ 7 3)]) (pc := 33) (ls := [some (vR 0)]) (st' := []) (σ := σ) hf rfl (fun _ h => (c_Way_hasThing h).mono (by decide)) (fun r2 hf => ?_)
    refine run_seg (k := 1) (s' := (if r2 = 0 then (36, [some (vR 0)], [], σ) else (40, [some (vR 0)], [], σ))) rfl ?_
    refine run_ite hf (fun _ hf => ?_) (fun _ hf => ?_)
    · refine run_seg (k := 2) (s' := (41, [some (vR 0)], [vI 1], σ)) rfl ?_
      exact run_ret hf rfl
    · refine run_seg (k := 1) (s' := (41, [some (vR 0)], [vI 0], σ)) rfl ?_
      exact run_ret hf rfl
def f_Table_sideOfDraw_21 : Nat → Int → Int → Int → xSt → Option (Int)
  | 0, _, _, _, _ => none
  | n + 1, l1, l4, l5, σ =>
    if l5 < 5 then (xbR (f_Table_partsOf l1 l5 σ) fun r3 =>
    if l4 < r3 then (some l5)
    else (xbR (f_Table_partsOf l1 l5 σ) fun r4 =>
    xlet (w32 (l4 - r4)) fun x5 =>
    xlet (w32 (l5 + 1)) fun x6 =>
    f_Table_sideOfDraw_21 n l1 x5 x6 σ))
    else (some l5)
/-- BentPenny$Table.sideOfDraw(II)I -/
def f_Table_sideOfDraw (p1 : Int) (p2 : Int) (σ : xSt) : Option (Int) :=
  xbR (f_Table_allParts p1 σ) fun r1 =>
  if r1 < 1 then (some 0)
  else (if r1 = 0 then none else
  xlet (xrem p2 r1) fun x2 =>
  f_Table_sideOfDraw_21 1000000 p1 x2 0 σ)
theorem r_Table_sideOfDraw_21 : ∀ (n : Nat) {l1 : Int} {l4 : Int} {l5 : Int} {g2 : Option xV} {g3 : Option xV} {σ : xSt} {r : Int}, f_Table_sideOfDraw_21 n l1 l4 l5 σ = some r → Run 2 8 1 kX8_sideOfDraw (21, [some (vR 7), some (vI l1), g2, g3, some (vI l4), some (vI l5)], [], σ) ((tI σ) r) := by
  intro n
  induction n with
  | zero =>
    intro _ _ _ _ _ _ _ h
    exact nomatch (show (none : Option (Int)) = some _ from h)
  | succ n ih =>
    intro l1 l4 l5 g2 g3 σ r hf
    unfold f_Table_sideOfDraw_21 at hf
    refine run_seg (k := 3) (s' := (if l5 < 5 then (27, [some (vR 7), some (vI l1), g2, g3, some (vI l4), some (vI l5)], [], σ) else (57, [some (vR 7), some (vI l1), g2, g3, some (vI l4), some (vI l5)], [], σ))) rfl ?_
    refine run_ite hf (fun _ hf => ?_) (fun _ hf => ?_)
    · refine run_seg (k := 4) (s' := (33, [some (vR 7), some (vI l1), g2, g3, some (vI l4), some (vI l5)], [vI l5, vI l1, vR 7, vI l4], σ)) rfl ?_
      refine run_callN (w := fun a => some (vI a)) (m := 91) (as := [vR 7, vI l1, vI l5]) (pc := 36) (ls := [some (vR 7), some (vI l1), g2, g3, some (vI l4), some (vI l5)]) (st' := [vI l4]) (σ := σ) hf rfl (fun _ h => (c_Table_partsOf h).mono (by decide)) (fun r3 hf => ?_)
      refine run_seg (k := 1) (s' := (if l4 < r3 then (57, [some (vR 7), some (vI l1), g2, g3, some (vI l4), some (vI l5)], [], σ) else (39, [some (vR 7), some (vI l1), g2, g3, some (vI l4), some (vI l5)], [], σ))) rfl ?_
      refine run_ite hf (fun _ hf => ?_) (fun _ hf => ?_)
      · refine run_seg (k := 1) (s' := (59, [some (vR 7), some (vI l1), g2, g3, some (vI l4), some (vI l5)], [vI l5], σ)) rfl ?_
        exact run_ret hf rfl
      · refine run_seg (k := 4) (s' := (45, [some (vR 7), some (vI l1), g2, g3, some (vI l4), some (vI l5)], [vI l5, vI l1, vR 7, vI l4], σ)) rfl ?_
        refine run_callN (w := fun a => some (vI a)) (m := 91) (as := [vR 7, vI l1, vI l5]) (pc := 48) (ls := [some (vR 7), some (vI l1), g2, g3, some (vI l4), some (vI l5)]) (st' := [vI l4]) (σ := σ) hf rfl (fun _ h => (c_Table_partsOf h).mono (by decide)) (fun r4 hf => ?_)
        refine run_seg (k := 2) (s' := (51, [some (vR 7), some (vI l1), g2, g3, some (vI (w32 (l4 - r4))), some (vI l5)], [], σ)) rfl ?_
        refine run_let (fun x5 => (51, [some (vR 7), some (vI l1), g2, g3, some (vI x5), some (vI l5)], [], σ)) hf (fun x5 hf => ?_)
        refine run_seg (k := 1) (s' := (54, [some (vR 7), some (vI l1), g2, g3, some (vI x5), some (vI (w32 (l5 + 1)))], [], σ)) rfl ?_
        refine run_let (fun x6 => (54, [some (vR 7), some (vI l1), g2, g3, some (vI x5), some (vI x6)], [], σ)) hf (fun x6 hf => ?_)
        refine run_seg (k := 1) (s' := (21, [some (vR 7), some (vI l1), g2, g3, some (vI x5), some (vI x6)], [], σ)) rfl ?_
        exact ih hf
    · refine run_seg (k := 1) (s' := (59, [some (vR 7), some (vI l1), g2, g3, some (vI l4), some (vI l5)], [vI l5], σ)) rfl ?_
      exact run_ret hf rfl
theorem c_Table_sideOfDraw {p1 : Int} {p2 : Int} {σ : xSt} {r : Int} (hf : f_Table_sideOfDraw p1 p2 σ = some r) : Call (2 + 1) 97 [vR 7, vI p1, vI p2] σ ((tI σ) r).1 ((tI σ) r).2 := by
  unfold f_Table_sideOfDraw at hf
  refine call_of (own := 8) (rk := 1) (cd := kX8_sideOfDraw) (ls := [some (vR 7), some (vI p1), some (vI p2), none, none, none]) (rT := (tI σ)) rfl rfl rfl rfl rfl ?_
  refine run_seg (k := 2) (s' := (2, [some (vR 7), some (vI p1), some (vI p2), none, none, none], [vI p1, vR 7], σ)) rfl ?_
  refine run_callN (w := fun a => some (vI a)) (m := 90) (as := [vR 7, vI p1]) (pc := 5) (ls := [some (vR 7), some (vI p1), some (vI p2), none, none, none]) (st' := []) (σ := σ) hf rfl (fun _ h => (c_Table_allParts h).mono (by decide)) (fun r1 hf => ?_)
  refine run_seg (k := 4) (s' := (if r1 < 1 then (11, [some (vR 7), some (vI p1), some (vI p2), some (vI r1), none, none], [], σ) else (13, [some (vR 7), some (vI p1), some (vI p2), some (vI r1), none, none], [], σ))) rfl ?_
  refine run_ite hf (fun _ hf => ?_) (fun _ hf => ?_)
  · refine run_seg (k := 1) (s' := (12, [some (vR 7), some (vI p1), some (vI p2), some (vI r1), none, none], [vI 0], σ)) rfl ?_
    exact run_ret hf rfl
  · refine run_seg (k := 2) (s' := (15, [some (vR 7), some (vI p1), some (vI p2), some (vI r1), none, none], [vI r1, vI p2], σ)) rfl ?_
    refine run_gdiv (s' := (16, [some (vR 7), some (vI p1), some (vI p2), some (vI r1), none, none], [vI (xrem p2 r1)], σ)) hf rfl (fun hf => ?_)
    refine run_seg (k := 1) (s' := (18, [some (vR 7), some (vI p1), some (vI p2), some (vI r1), some (vI (xrem p2 r1)), none], [], σ)) rfl ?_
    refine run_let (fun x2 => (18, [some (vR 7), some (vI p1), some (vI p2), some (vI r1), some (vI x2), none], [], σ)) hf (fun x2 hf => ?_)
    refine run_seg (k := 2) (s' := (21, [some (vR 7), some (vI p1), some (vI p2), some (vI r1), some (vI x2), some (vI 0)], [], σ)) rfl ?_
    exact r_Table_sideOfDraw_21 1000000 hf
def f_X_castOnce_101 (l4 : Int) (σ : xSt) : Option (Int × xSt) :=
  xbR (f_Way_endAt l4 σ) fun r8 =>
  some (r8, σ)
def f_X_castOnce_10 : Nat → Int → Int → Int → xSt → Option (Int × xSt)
  | 0, _, _, _, _ => none
  | n + 1, l1, l3, l4, σ =>
    if σ 0 18 < l1 then (xbR (f_Way_sortAt l4 σ) fun r2 =>
    if r2 = 2 then (xbR (f_Way_whichAt l4 σ) fun r3 =>
    xlet (w32 ((w32 (l3 * 1103515245)) + 12345)) fun x4 =>
    xbR (f_Table_sideOfDraw r3 (xushr x4 8) σ) fun r5 =>
    xbR (f_Way_landing l4 r5 σ) fun r6 =>
    xlet (upS σ 0 18 (w32 ((σ 0 18) + 1))) fun σ7 =>
    f_X_castOnce_10 n l1 x4 r6 σ7)
    else (f_X_castOnce_101 l4 σ))
    else (f_X_castOnce_101 l4 σ)
/-- BentPenny.castOnce(II)I -/
def f_X_castOnce (p1 : Int) (p2 : Int) (σ : xSt) : Option (Int × xSt) :=
  xlet (upS σ 0 18 0) fun σ1 =>
  f_X_castOnce_10 1000000 p1 p2 0 σ1
theorem r_X_castOnce_101 {l4 : Int} {g1 : Option xV} {g2 : Option xV} {g3 : Option xV} {g5 : Option xV} {σ : xSt} {r : Int × xSt} (hf : f_X_castOnce_101 l4 σ = some r) : Run 3 11 1 kX11_castOnce (101, [some (vR 0), g1, g2, g3, some (vI l4), g5], [], σ) (tIW r) := by
  unfold f_X_castOnce_101 at hf
  refine run_seg (k := 4) (s' := (110, [some (vR 0), g1, g2, g3, some (vI l4), g5], [vI l4, vR 16], σ)) rfl ?_
  refine run_callN (w := fun a => some (vI a)) (m := 137) (as := [vR 16, vI l4]) (pc := 113) (ls := [some (vR 0), g1, g2, g3, some (vI l4), g5]) (st' := []) (σ := σ) hf rfl (fun _ h => (c_Way_endAt h).mono (by decide)) (fun r8 hf => ?_)
  exact run_ret hf rfl
theorem r_X_castOnce_10 : ∀ (n : Nat) {l1 : Int} {l3 : Int} {l4 : Int} {g2 : Option xV} {g5 : Option xV} {σ : xSt} {r : Int × xSt}, f_X_castOnce_10 n l1 l3 l4 σ = some r → Run 3 11 1 kX11_castOnce (10, [some (vR 0), some (vI l1), g2, some (vI l3), some (vI l4), g5], [], σ) (tIW r) := by
  intro n
  induction n with
  | zero =>
    intro _ _ _ _ _ _ _ h
    exact nomatch (show (none : Option (Int × xSt)) = some _ from h)
  | succ n ih =>
    intro l1 l3 l4 g2 g5 σ r hf
    unfold f_X_castOnce_10 at hf
    refine run_seg (k := 4) (s' := (if σ 0 18 < l1 then (18, [some (vR 0), some (vI l1), g2, some (vI l3), some (vI l4), g5], [], σ) else (101, [some (vR 0), some (vI l1), g2, some (vI l3), some (vI l4), g5], [], σ))) rfl ?_
    refine run_ite hf (fun _ hf => ?_) (fun _ hf => ?_)
    · refine run_seg (k := 4) (s' := (27, [some (vR 0), some (vI l1), g2, some (vI l3), some (vI l4), g5], [vI l4, vR 16], σ)) rfl ?_
      refine run_callN (w := fun a => some (vI a)) (m := 131) (as := [vR 16, vI l4]) (pc := 30) (ls := [some (vR 0), some (vI l1), g2, some (vI l3), some (vI l4), g5]) (st' := []) (σ := σ) hf rfl (fun _ h => (c_Way_sortAt h).mono (by decide)) (fun r2 hf => ?_)
      refine run_seg (k := 2) (s' := (if r2 = 2 then (34, [some (vR 0), some (vI l1), g2, some (vI l3), some (vI l4), g5], [], σ) else (101, [some (vR 0), some (vI l1), g2, some (vI l3), some (vI l4), g5], [], σ))) rfl ?_
      refine run_ite hf (fun _ hf => ?_) (fun _ hf => ?_)
      · refine run_seg (k := 4) (s' := (43, [some (vR 0), some (vI l1), g2, some (vI l3), some (vI l4), g5], [vI l4, vR 16], σ)) rfl ?_
        refine run_callN (w := fun a => some (vI a)) (m := 132) (as := [vR 16, vI l4]) (pc := 46) (ls := [some (vR 0), some (vI l1), g2, some (vI l3), some (vI l4), g5]) (st' := []) (σ := σ) hf rfl (fun _ h => (c_Way_whichAt h).mono (by decide)) (fun r3 hf => ?_)
        refine run_seg (k := 7) (s' := (58, [some (vR 0), some (vI l1), g2, some (vI (w32 ((w32 (l3 * 1103515245)) + 12345))), some (vI l4), some (vI r3)], [], σ)) rfl ?_
        refine run_let (fun x4 => (58, [some (vR 0), some (vI l1), g2, some (vI x4), some (vI l4), some (vI r3)], [], σ)) hf (fun x4 hf => ?_)
        refine run_seg (k := 11) (s' := (80, [some (vR 0), some (vI l1), g2, some (vI x4), some (vI l4), some (vI r3)], [vI (xushr x4 8), vI r3, vR 7, vI l4, vR 16], σ)) rfl ?_
        refine run_callN (w := fun a => some (vI a)) (m := 97) (as := [vR 7, vI r3, vI (xushr x4 8)]) (pc := 83) (ls := [some (vR 0), some (vI l1), g2, some (vI x4), some (vI l4), some (vI r3)]) (st' := [vI l4, vR 16]) (σ := σ) hf rfl (fun _ h => (c_Table_sideOfDraw h).mono (by decide)) (fun r5 hf => ?_)
        refine run_callN (w := fun a => some (vI a)) (m := 136) (as := [vR 16, vI l4, vI r5]) (pc := 86) (ls := [some (vR 0), some (vI l1), g2, some (vI x4), some (vI l4), some (vI r3)]) (st' := []) (σ := σ) hf rfl (fun _ h => (c_Way_landing h).mono (by decide)) (fun r6 hf => ?_)
        refine run_seg (k := 7) (s' := (98, [some (vR 0), some (vI l1), g2, some (vI x4), some (vI r6), some (vI r3)], [], upS σ 0 18 (w32 ((σ 0 18) + 1)))) rfl ?_
        refine run_let (fun σ7 => (98, [some (vR 0), some (vI l1), g2, some (vI x4), some (vI r6), some (vI r3)], [], σ7)) hf (fun σ7 hf => ?_)
        refine run_seg (k := 1) (s' := (10, [some (vR 0), some (vI l1), g2, some (vI x4), some (vI r6), some (vI r3)], [], σ7)) rfl ?_
        exact ih hf
      · exact r_X_castOnce_101 hf
    · exact r_X_castOnce_101 hf
theorem c_X_castOnce {p1 : Int} {p2 : Int} {σ : xSt} {r : Int × xSt} (hf : f_X_castOnce p1 p2 σ = some r) : Call (3 + 1) 200 [vR 0, vI p1, vI p2] σ (tIW r).1 (tIW r).2 := by
  unfold f_X_castOnce at hf
  refine call_of (own := 11) (rk := 1) (cd := kX11_castOnce) (ls := [some (vR 0), some (vI p1), some (vI p2), none, none, none]) (rT := tIW) rfl rfl rfl rfl rfl ?_
  refine run_seg (k := 7) (s' := (10, [some (vR 0), some (vI p1), some (vI p2), some (vI p2), some (vI 0), none], [], upS σ 0 18 0)) rfl ?_
  refine run_let (fun σ1 => (10, [some (vR 0), some (vI p1), some (vI p2), some (vI p2), some (vI 0), none], [], σ1)) hf (fun σ1 hf => ?_)
  exact r_X_castOnce_10 1000000 hf
/-- BentPenny.cast(II)I -/
def f_X_cast (p1 : Int) (p2 : Int) (σ : xSt) : Option (Int × xSt) :=
  if p1 < 1 then (some ((-2), σ))
  else (if 400 < p1 then (some ((-2), σ))
  else (xbR (f_X_canCast σ) fun r1 =>
  if r1 = 0 then (some ((-2), σ))
  else (xbW (f_X_castOnce p1 p2 σ) fun r2 σ3 =>
  some (r2, σ3))))
theorem c_X_cast {p1 : Int} {p2 : Int} {σ : xSt} {r : Int × xSt} (hf : f_X_cast p1 p2 σ = some r) : Call (4 + 1) 196 [vR 0, vI p1, vI p2] σ (tIW r).1 (tIW r).2 := by
  unfold f_X_cast at hf
  refine call_of (own := 11) (rk := 1) (cd := kX11_cast) (ls := [some (vR 0), some (vI p1), some (vI p2)]) (rT := tIW) rfl rfl rfl rfl rfl ?_
  refine run_seg (k := 3) (s' := (if p1 < 1 then (19, [some (vR 0), some (vI p1), some (vI p2)], [], σ) else (5, [some (vR 0), some (vI p1), some (vI p2)], [], σ))) rfl ?_
  refine run_ite hf (fun _ hf => ?_) (fun _ hf => ?_)
  · refine run_seg (k := 1) (s' := (21, [some (vR 0), some (vI p1), some (vI p2)], [vI (-2)], σ)) rfl ?_
    exact run_ret hf rfl
  · refine run_seg (k := 3) (s' := (if 400 < p1 then (19, [some (vR 0), some (vI p1), some (vI p2)], [], σ) else (12, [some (vR 0), some (vI p1), some (vI p2)], [], σ))) rfl ?_
    refine run_ite hf (fun _ hf => ?_) (fun _ hf => ?_)
    · refine run_seg (k := 1) (s' := (21, [some (vR 0), some (vI p1), some (vI p2)], [vI (-2)], σ)) rfl ?_
      exact run_ret hf rfl
    · refine run_seg (k := 1) (s' := (13, [some (vR 0), some (vI p1), some (vI p2)], [vR 0], σ)) rfl ?_
      refine run_callN (w := fun a => some (vI a)) (m := 199) (as := [vR 0]) (pc := 16) (ls := [some (vR 0), some (vI p1), some (vI p2)]) (st' := []) (σ := σ) hf rfl (fun _ h => (c_X_canCast h).mono (by decide)) (fun r1 hf => ?_)
      refine run_seg (k := 1) (s' := (if r1 = 0 then (19, [some (vR 0), some (vI p1), some (vI p2)], [], σ) else (22, [some (vR 0), some (vI p1), some (vI p2)], [], σ))) rfl ?_
      refine run_ite hf (fun _ hf => ?_) (fun _ hf => ?_)
      · refine run_seg (k := 1) (s' := (21, [some (vR 0), some (vI p1), some (vI p2)], [vI (-2)], σ)) rfl ?_
        exact run_ret hf rfl
      · refine run_seg (k := 3) (s' := (25, [some (vR 0), some (vI p1), some (vI p2)], [vI p2, vI p1, vR 0], σ)) rfl ?_
        refine run_callW (w := fun a => some (vI a)) (m := 200) (as := [vR 0, vI p1, vI p2]) (pc := 28) (ls := [some (vR 0), some (vI p1), some (vI p2)]) (st' := []) (σ := σ) hf rfl (fun _ _ h => (c_X_castOnce h).mono (by decide)) (fun r2 σ3 hf => ?_)
        exact run_ret hf rfl
/-- BentPenny.tosses()I -/
def f_X_tosses (σ : xSt) : Option (Int) :=
  some (σ 0 18)
theorem c_X_tosses {σ : xSt} {r : Int} (hf : f_X_tosses σ = some r) : Call (0 + 1) 197 [vR 0] σ ((tI σ) r).1 ((tI σ) r).2 := by
  unfold f_X_tosses at hf
  refine call_of (own := 11) (rk := 1) (cd := kX11_tosses) (ls := [some (vR 0)]) (rT := (tI σ)) rfl rfl rfl rfl rfl ?_
  refine run_seg (k := 2) (s' := (4, [some (vR 0)], [vI (σ 0 18)], σ)) rfl ?_
  exact run_ret hf rfl
def f_X_casts_47 : Nat → Int → Int → Int → Int → Int → Int → xSt → Option (Int × xSt)
  | 0, _, _, _, _, _, _, _ => none
  | n + 1, l1, l2, l3, l4, l5, l6, σ =>
    if l6 < l1 then (xbW (f_X_castOnce 400 (w32 (l2 + l6)) σ) fun r4 σ5 =>
    if r4 = l3 then (xlet (w32 (l5 + 1)) fun x6 =>
    xlet (w32 (l6 + 1)) fun x7 =>
    f_X_casts_47 n l1 l2 l3 l4 x6 x7 σ5)
    else (xlet (w32 (l6 + 1)) fun x8 =>
    f_X_casts_47 n l1 l2 l3 l4 l5 x8 σ5))
    else (xlet (upS σ 0 18 l4) fun σ9 =>
    some (l5, σ9))
/-- BentPenny.casts(III)I -/
def f_X_casts (p1 : Int) (p2 : Int) (p3 : Int) (σ : xSt) : Option (Int × xSt) :=
  if p1 < 1 then (some ((-1), σ))
  else (if 200 < p1 then (some ((-1), σ))
  else (xbR (f_Table_hasEnd p3 σ) fun r1 =>
  if r1 = 0 then (some ((-1), σ))
  else (xbR (f_X_canCast σ) fun r2 =>
  if r2 = 0 then (some ((-1), σ))
  else (xlet (σ 0 18) fun x3 =>
  f_X_casts_47 1000000 p1 p2 p3 x3 0 0 σ))))
theorem r_X_casts_47 : ∀ (n : Nat) {l1 : Int} {l2 : Int} {l3 : Int} {l4 : Int} {l5 : Int} {l6 : Int} {σ : xSt} {r : Int × xSt}, f_X_casts_47 n l1 l2 l3 l4 l5 l6 σ = some r → Run 4 11 1 kX11_casts (47, [some (vR 0), some (vI l1), some (vI l2), some (vI l3), some (vI l4), some (vI l5), some (vI l6)], [], σ) (tIW r) := by
  intro n
  induction n with
  | zero =>
    intro _ _ _ _ _ _ _ _ h
    exact nomatch (show (none : Option (Int × xSt)) = some _ from h)
  | succ n ih =>
    intro l1 l2 l3 l4 l5 l6 σ r hf
    unfold f_X_casts_47 at hf
    refine run_seg (k := 3) (s' := (if l6 < l1 then (53, [some (vR 0), some (vI l1), some (vI l2), some (vI l3), some (vI l4), some (vI l5), some (vI l6)], [], σ) else (77, [some (vR 0), some (vI l1), some (vI l2), some (vI l3), some (vI l4), some (vI l5), some (vI l6)], [], σ))) rfl ?_
    refine run_ite hf (fun _ hf => ?_) (fun _ hf => ?_)
    · refine run_seg (k := 5) (s' := (61, [some (vR 0), some (vI l1), some (vI l2), some (vI l3), some (vI l4), some (vI l5), some (vI l6)], [vI (w32 (l2 + l6)), vI 400, vR 0], σ)) rfl ?_
      refine run_callW (w := fun a => some (vI a)) (m := 200) (as := [vR 0, vI 400, vI (w32 (l2 + l6))]) (pc := 64) (ls := [some (vR 0), some (vI l1), some (vI l2), some (vI l3), some (vI l4), some (vI l5), some (vI l6)]) (st' := []) (σ := σ) hf rfl (fun _ _ h => (c_X_castOnce h).mono (by decide)) (fun r4 σ5 hf => ?_)
      refine run_seg (k := 2) (s' := (if r4 = l3 then (68, [some (vR 0), some (vI l1), some (vI l2), some (vI l3), some (vI l4), some (vI l5), some (vI l6)], [], σ5) else (71, [some (vR 0), some (vI l1), some (vI l2), some (vI l3), some (vI l4), some (vI l5), some (vI l6)], [], σ5))) rfl ?_
      refine run_ite hf (fun _ hf => ?_) (fun _ hf => ?_)
      · refine run_seg (k := 1) (s' := (71, [some (vR 0), some (vI l1), some (vI l2), some (vI l3), some (vI l4), some (vI (w32 (l5 + 1))), some (vI l6)], [], σ5)) rfl ?_
        refine run_let (fun x6 => (71, [some (vR 0), some (vI l1), some (vI l2), some (vI l3), some (vI l4), some (vI x6), some (vI l6)], [], σ5)) hf (fun x6 hf => ?_)
        refine run_seg (k := 1) (s' := (74, [some (vR 0), some (vI l1), some (vI l2), some (vI l3), some (vI l4), some (vI x6), some (vI (w32 (l6 + 1)))], [], σ5)) rfl ?_
        refine run_let (fun x7 => (74, [some (vR 0), some (vI l1), some (vI l2), some (vI l3), some (vI l4), some (vI x6), some (vI x7)], [], σ5)) hf (fun x7 hf => ?_)
        refine run_seg (k := 1) (s' := (47, [some (vR 0), some (vI l1), some (vI l2), some (vI l3), some (vI l4), some (vI x6), some (vI x7)], [], σ5)) rfl ?_
        exact ih hf
      · refine run_seg (k := 1) (s' := (74, [some (vR 0), some (vI l1), some (vI l2), some (vI l3), some (vI l4), some (vI l5), some (vI (w32 (l6 + 1)))], [], σ5)) rfl ?_
        refine run_let (fun x8 => (74, [some (vR 0), some (vI l1), some (vI l2), some (vI l3), some (vI l4), some (vI l5), some (vI x8)], [], σ5)) hf (fun x8 hf => ?_)
        refine run_seg (k := 1) (s' := (47, [some (vR 0), some (vI l1), some (vI l2), some (vI l3), some (vI l4), some (vI l5), some (vI x8)], [], σ5)) rfl ?_
        exact ih hf
    · refine run_seg (k := 3) (s' := (83, [some (vR 0), some (vI l1), some (vI l2), some (vI l3), some (vI l4), some (vI l5), some (vI l6)], [], upS σ 0 18 l4)) rfl ?_
      refine run_let (fun σ9 => (83, [some (vR 0), some (vI l1), some (vI l2), some (vI l3), some (vI l4), some (vI l5), some (vI l6)], [], σ9)) hf (fun σ9 hf => ?_)
      refine run_seg (k := 1) (s' := (85, [some (vR 0), some (vI l1), some (vI l2), some (vI l3), some (vI l4), some (vI l5), some (vI l6)], [vI l5], σ9)) rfl ?_
      exact run_ret hf rfl
theorem c_X_casts {p1 : Int} {p2 : Int} {p3 : Int} {σ : xSt} {r : Int × xSt} (hf : f_X_casts p1 p2 p3 σ = some r) : Call (4 + 1) 198 [vR 0, vI p1, vI p2, vI p3] σ (tIW r).1 (tIW r).2 := by
  unfold f_X_casts at hf
  refine call_of (own := 11) (rk := 1) (cd := kX11_casts) (ls := [some (vR 0), some (vI p1), some (vI p2), some (vI p3), none, none, none]) (rT := tIW) rfl rfl rfl rfl rfl ?_
  refine run_seg (k := 3) (s' := (if p1 < 1 then (33, [some (vR 0), some (vI p1), some (vI p2), some (vI p3), none, none, none], [], σ) else (5, [some (vR 0), some (vI p1), some (vI p2), some (vI p3), none, none, none], [], σ))) rfl ?_
  refine run_ite hf (fun _ hf => ?_) (fun _ hf => ?_)
  · refine run_seg (k := 1) (s' := (34, [some (vR 0), some (vI p1), some (vI p2), some (vI p3), none, none, none], [vI (-1)], σ)) rfl ?_
    exact run_ret hf rfl
  · refine run_seg (k := 3) (s' := (if 200 < p1 then (33, [some (vR 0), some (vI p1), some (vI p2), some (vI p3), none, none, none], [], σ) else (12, [some (vR 0), some (vI p1), some (vI p2), some (vI p3), none, none, none], [], σ))) rfl ?_
    refine run_ite hf (fun _ hf => ?_) (fun _ hf => ?_)
    · refine run_seg (k := 1) (s' := (34, [some (vR 0), some (vI p1), some (vI p2), some (vI p3), none, none, none], [vI (-1)], σ)) rfl ?_
      exact run_ret hf rfl
    · refine run_seg (k := 4) (s' := (20, [some (vR 0), some (vI p1), some (vI p2), some (vI p3), none, none, none], [vI p3, vR 7], σ)) rfl ?_
      refine run_callN (w := fun a => some (vI a)) (m := 85) (as := [vR 7, vI p3]) (pc := 23) (ls := [some (vR 0), some (vI p1), some (vI p2), some (vI p3), none, none, none]) (st' := []) (σ := σ) hf rfl (fun _ h => (c_Table_hasEnd h).mono (by decide)) (fun r1 hf => ?_)
      refine run_seg (k := 1) (s' := (if r1 = 0 then (33, [some (vR 0), some (vI p1), some (vI p2), some (vI p3), none, none, none], [], σ) else (26, [some (vR 0), some (vI p1), some (vI p2), some (vI p3), none, none, none], [], σ))) rfl ?_
      refine run_ite hf (fun _ hf => ?_) (fun _ hf => ?_)
      · refine run_seg (k := 1) (s' := (34, [some (vR 0), some (vI p1), some (vI p2), some (vI p3), none, none, none], [vI (-1)], σ)) rfl ?_
        exact run_ret hf rfl
      · refine run_seg (k := 1) (s' := (27, [some (vR 0), some (vI p1), some (vI p2), some (vI p3), none, none, none], [vR 0], σ)) rfl ?_
        refine run_callN (w := fun a => some (vI a)) (m := 199) (as := [vR 0]) (pc := 30) (ls := [some (vR 0), some (vI p1), some (vI p2), some (vI p3), none, none, none]) (st' := []) (σ := σ) hf rfl (fun _ h => (c_X_canCast h).mono (by decide)) (fun r2 hf => ?_)
        refine run_seg (k := 1) (s' := (if r2 = 0 then (33, [some (vR 0), some (vI p1), some (vI p2), some (vI p3), none, none, none], [], σ) else (35, [some (vR 0), some (vI p1), some (vI p2), some (vI p3), none, none, none], [], σ))) rfl ?_
        refine run_ite hf (fun _ hf => ?_) (fun _ hf => ?_)
        · refine run_seg (k := 1) (s' := (34, [some (vR 0), some (vI p1), some (vI p2), some (vI p3), none, none, none], [vI (-1)], σ)) rfl ?_
          exact run_ret hf rfl
        · refine run_seg (k := 3) (s' := (41, [some (vR 0), some (vI p1), some (vI p2), some (vI p3), some (vI (σ 0 18)), none, none], [], σ)) rfl ?_
          refine run_let (fun x3 => (41, [some (vR 0), some (vI p1), some (vI p2), some (vI p3), some (vI x3), none, none], [], σ)) hf (fun x3 hf => ?_)
          refine run_seg (k := 4) (s' := (47, [some (vR 0), some (vI p1), some (vI p2), some (vI p3), some (vI x3), some (vI 0), some (vI 0)], [], σ)) rfl ?_
          exact r_X_casts_47 1000000 hf
/-- BentPenny$Sentence.add(III)Z -/
def f_Sentence_add (p1 : Int) (p2 : Int) (p3 : Int) (σ : xSt) : Option (Int × xSt) :=
  xbR (f_X_isWithin (σ 42 1) 40 σ) fun r1 =>
  if r1 = 0 then (some (0, σ))
  else (if 0 ≤ σ 42 1 ∧ σ 42 1 < 40 then (
  xlet (upS σ 43 (σ 42 1).toNat p1) fun σ2 =>
  if 0 ≤ σ2 42 1 ∧ σ2 42 1 < 40 then (
  xlet (upS σ2 44 (σ2 42 1).toNat p2) fun σ3 =>
  if 0 ≤ σ3 42 1 ∧ σ3 42 1 < 40 then (
  xlet (upS σ3 45 (σ3 42 1).toNat p3) fun σ4 =>
  xlet (upS σ4 42 1 (w32 ((σ4 42 1) + 1))) fun σ5 =>
  some (1, σ5)) else none) else none) else none)
theorem c_Sentence_add {p1 : Int} {p2 : Int} {p3 : Int} {σ : xSt} {r : Int × xSt} (hf : f_Sentence_add p1 p2 p3 σ = some r) : Call (1 + 1) 61 [vR 42, vI p1, vI p2, vI p3] σ (tIW r).1 (tIW r).2 := by
  unfold f_Sentence_add at hf
  refine call_of (own := 5) (rk := 2) (cd := kX5_add) (ls := [some (vR 42), some (vI p1), some (vI p2), some (vI p3)]) (rT := tIW) rfl rfl rfl rfl rfl ?_
  refine run_seg (k := 3) (s' := (6, [some (vR 42), some (vI p1), some (vI p2), some (vI p3)], [vI 40, vI (σ 42 1)], σ)) rfl ?_
  refine run_callN (w := fun a => some (vI a)) (m := 207) (as := [vI (σ 42 1), vI 40]) (pc := 9) (ls := [some (vR 42), some (vI p1), some (vI p2), some (vI p3)]) (st' := []) (σ := σ) hf rfl (fun _ h => (c_X_isWithin h).mono (by decide)) (fun r1 hf => ?_)
  refine run_seg (k := 1) (s' := (if r1 = 0 then (12, [some (vR 42), some (vI p1), some (vI p2), some (vI p3)], [], σ) else (14, [some (vR 42), some (vI p1), some (vI p2), some (vI p3)], [], σ))) rfl ?_
  refine run_ite hf (fun _ hf => ?_) (fun _ hf => ?_)
  · refine run_seg (k := 1) (s' := (13, [some (vR 42), some (vI p1), some (vI p2), some (vI p3)], [vI 0], σ)) rfl ?_
    exact run_ret hf rfl
  · refine run_seg (k := 5) (s' := (23, [some (vR 42), some (vI p1), some (vI p2), some (vI p3)], [vI p1, vI (σ 42 1), vR 43], σ)) rfl ?_
    refine run_guard (s' := (24, [some (vR 42), some (vI p1), some (vI p2), some (vI p3)], [], upS σ 43 (σ 42 1).toNat p1)) hf rfl (fun hf => ?_)
    refine run_let (fun σ2 => (24, [some (vR 42), some (vI p1), some (vI p2), some (vI p3)], [], σ2)) hf (fun σ2 hf => ?_)
    refine run_seg (k := 5) (s' := (33, [some (vR 42), some (vI p1), some (vI p2), some (vI p3)], [vI p2, vI (σ2 42 1), vR 44], σ2)) rfl ?_
    refine run_guard (s' := (34, [some (vR 42), some (vI p1), some (vI p2), some (vI p3)], [], upS σ2 44 (σ2 42 1).toNat p2)) hf rfl (fun hf => ?_)
    refine run_let (fun σ3 => (34, [some (vR 42), some (vI p1), some (vI p2), some (vI p3)], [], σ3)) hf (fun σ3 hf => ?_)
    refine run_seg (k := 5) (s' := (43, [some (vR 42), some (vI p1), some (vI p2), some (vI p3)], [vI p3, vI (σ3 42 1), vR 45], σ3)) rfl ?_
    refine run_guard (s' := (44, [some (vR 42), some (vI p1), some (vI p2), some (vI p3)], [], upS σ3 45 (σ3 42 1).toNat p3)) hf rfl (fun hf => ?_)
    refine run_let (fun σ4 => (44, [some (vR 42), some (vI p1), some (vI p2), some (vI p3)], [], σ4)) hf (fun σ4 hf => ?_)
    refine run_seg (k := 6) (s' := (54, [some (vR 42), some (vI p1), some (vI p2), some (vI p3)], [], upS σ4 42 1 (w32 ((σ4 42 1) + 1)))) rfl ?_
    refine run_let (fun σ5 => (54, [some (vR 42), some (vI p1), some (vI p2), some (vI p3)], [], σ5)) hf (fun σ5 hf => ?_)
    refine run_seg (k := 1) (s' := (55, [some (vR 42), some (vI p1), some (vI p2), some (vI p3)], [vI 1], σ5)) rfl ?_
    exact run_ret hf rfl
def f_Sentence_readSized_54 (l2 : Int) (σ : xSt) : Option (Int × xSt) :=
  xlet (σ 2 7) fun x8 =>
  xbR (f_Tokens_step σ) fun σ9 =>
  xbR (f_Tokens_isNumber σ9) fun r10 =>
  if r10 = 0 then (xbW (f_Tokens_fail 1 σ9) fun r11 σ12 =>
  some (xnb r11, σ12))
  else (xlet (σ9 2 7) fun x13 =>
  xbR (f_Tokens_step σ9) fun σ14 =>
  xbW (f_Sentence_add l2 x8 x13 σ14) fun r15 σ16 =>
  some (xnb r15, σ16))
def f_Sentence_readSized_16 (s0 : Int) (σ : xSt) : Option (Int × xSt) :=
  xbR (f_Tokens_step σ) fun σ2 =>
  xbR (f_Tokens_isSigned 60 σ2) fun r3 =>
  if r3 = 0 then (xbR (f_Tokens_isSigned 61 σ2) fun r4 =>
  if r4 = 0 then (xbR (f_Tokens_isSigned 62 σ2) fun r5 =>
  if r5 = 0 then (xbW (f_Tokens_fail 1 σ2) fun r6 σ7 =>
  some (xnb r6, σ7))
  else (f_Sentence_readSized_54 s0 σ2))
  else (f_Sentence_readSized_54 s0 σ2))
  else (f_Sentence_readSized_54 s0 σ2)
/-- BentPenny$Sentence.readSized(LBentPenny$Tokens;)Z -/
def f_Sentence_readSized (σ : xSt) : Option (Int × xSt) :=
  xbR (f_Tokens_is 145 σ) fun r1 =>
  if r1 = 0 then (f_Sentence_readSized_16 7 σ)
  else (f_Sentence_readSized_16 6 σ)
theorem r_Sentence_readSized_54 {l2 : Int} {g3 : Option xV} {g4 : Option xV} {σ : xSt} {r : Int × xSt} (hf : f_Sentence_readSized_54 l2 σ = some r) : Run 2 5 2 kX5_readSized (54, [some (vR 42), some (vR 2), some (vI l2), g3, g4], [], σ) (tIW r) := by
  unfold f_Sentence_readSized_54 at hf
  refine run_seg (k := 3) (s' := (59, [some (vR 42), some (vR 2), some (vI l2), some (vI (σ 2 7)), g4], [], σ)) rfl ?_
  refine run_let (fun x8 => (59, [some (vR 42), some (vR 2), some (vI l2), some (vI x8), g4], [], σ)) hf (fun x8 hf => ?_)
  refine run_seg (k := 1) (s' := (60, [some (vR 42), some (vR 2), some (vI l2), some (vI x8), g4], [vR 2], σ)) rfl ?_
  refine run_callV (m := 116) (as := [vR 2]) (pc := 63) (ls := [some (vR 42), some (vR 2), some (vI l2), some (vI x8), g4]) (st' := []) (σ := σ) hf rfl (fun _ h => (c_Tokens_step h).mono (by decide)) (fun σ9 hf => ?_)
  refine run_seg (k := 1) (s' := (64, [some (vR 42), some (vR 2), some (vI l2), some (vI x8), g4], [vR 2], σ9)) rfl ?_
  refine run_callN (w := fun a => some (vI a)) (m := 119) (as := [vR 2]) (pc := 67) (ls := [some (vR 42), some (vR 2), some (vI l2), some (vI x8), g4]) (st' := []) (σ := σ9) hf rfl (fun _ h => (c_Tokens_isNumber h).mono (by decide)) (fun r10 hf => ?_)
  refine run_seg (k := 1) (s' := (if r10 = 0 then (70, [some (vR 42), some (vR 2), some (vI l2), some (vI x8), g4], [], σ9) else (76, [some (vR 42), some (vR 2), some (vI l2), some (vI x8), g4], [], σ9))) rfl ?_
  refine run_ite hf (fun _ hf => ?_) (fun _ hf => ?_)
  · refine run_seg (k := 2) (s' := (72, [some (vR 42), some (vR 2), some (vI l2), some (vI x8), g4], [vI 1, vR 2], σ9)) rfl ?_
    refine run_callW (w := fun a => some (vI a)) (m := 122) (as := [vR 2, vI 1]) (pc := 75) (ls := [some (vR 42), some (vR 2), some (vI l2), some (vI x8), g4]) (st' := []) (σ := σ9) hf rfl (fun _ _ h => (c_Tokens_fail h).mono (by decide)) (fun r11 σ12 hf => ?_)
    exact run_ret hf rfl
  · refine run_seg (k := 3) (s' := (82, [some (vR 42), some (vR 2), some (vI l2), some (vI x8), some (vI (σ9 2 7))], [], σ9)) rfl ?_
    refine run_let (fun x13 => (82, [some (vR 42), some (vR 2), some (vI l2), some (vI x8), some (vI x13)], [], σ9)) hf (fun x13 hf => ?_)
    refine run_seg (k := 1) (s' := (83, [some (vR 42), some (vR 2), some (vI l2), some (vI x8), some (vI x13)], [vR 2], σ9)) rfl ?_
    refine run_callV (m := 116) (as := [vR 2]) (pc := 86) (ls := [some (vR 42), some (vR 2), some (vI l2), some (vI x8), some (vI x13)]) (st' := []) (σ := σ9) hf rfl (fun _ h => (c_Tokens_step h).mono (by decide)) (fun σ14 hf => ?_)
    refine run_seg (k := 4) (s' := (91, [some (vR 42), some (vR 2), some (vI l2), some (vI x8), some (vI x13)], [vI x13, vI x8, vI l2, vR 42], σ14)) rfl ?_
    refine run_callW (w := fun a => some (vI a)) (m := 61) (as := [vR 42, vI l2, vI x8, vI x13]) (pc := 94) (ls := [some (vR 42), some (vR 2), some (vI l2), some (vI x8), some (vI x13)]) (st' := []) (σ := σ14) hf rfl (fun _ _ h => (c_Sentence_add h).mono (by decide)) (fun r15 σ16 hf => ?_)
    exact run_ret hf rfl
theorem r_Sentence_readSized_16 {s0 : Int} {g2 : Option xV} {g3 : Option xV} {g4 : Option xV} {σ : xSt} {r : Int × xSt} (hf : f_Sentence_readSized_16 s0 σ = some r) : Run 2 5 2 kX5_readSized (16, [some (vR 42), some (vR 2), g2, g3, g4], [vI s0], σ) (tIW r) := by
  unfold f_Sentence_readSized_16 at hf
  refine run_seg (k := 2) (s' := (18, [some (vR 42), some (vR 2), some (vI s0), g3, g4], [vR 2], σ)) rfl ?_
  refine run_callV (m := 116) (as := [vR 2]) (pc := 21) (ls := [some (vR 42), some (vR 2), some (vI s0), g3, g4]) (st' := []) (σ := σ) hf rfl (fun _ h => (c_Tokens_step h).mono (by decide)) (fun σ2 hf => ?_)
  refine run_seg (k := 2) (s' := (24, [some (vR 42), some (vR 2), some (vI s0), g3, g4], [vI 60, vR 2], σ2)) rfl ?_
  refine run_callN (w := fun a => some (vI a)) (m := 120) (as := [vR 2, vI 60]) (pc := 27) (ls := [some (vR 42), some (vR 2), some (vI s0), g3, g4]) (st' := []) (σ := σ2) hf rfl (fun _ h => (c_Tokens_isSigned h).mono (by decide)) (fun r3 hf => ?_)
  refine run_seg (k := 1) (s' := (if r3 = 0 then (30, [some (vR 42), some (vR 2), some (vI s0), g3, g4], [], σ2) else (54, [some (vR 42), some (vR 2), some (vI s0), g3, g4], [], σ2))) rfl ?_
  refine run_ite hf (fun _ hf => ?_) (fun _ hf => ?_)
  · refine run_seg (k := 2) (s' := (33, [some (vR 42), some (vR 2), some (vI s0), g3, g4], [vI 61, vR 2], σ2)) rfl ?_
    refine run_callN (w := fun a => some (vI a)) (m := 120) (as := [vR 2, vI 61]) (pc := 36) (ls := [some (vR 42), some (vR 2), some (vI s0), g3, g4]) (st' := []) (σ := σ2) hf rfl (fun _ h => (c_Tokens_isSigned h).mono (by decide)) (fun r4 hf => ?_)
    refine run_seg (k := 1) (s' := (if r4 = 0 then (39, [some (vR 42), some (vR 2), some (vI s0), g3, g4], [], σ2) else (54, [some (vR 42), some (vR 2), some (vI s0), g3, g4], [], σ2))) rfl ?_
    refine run_ite hf (fun _ hf => ?_) (fun _ hf => ?_)
    · refine run_seg (k := 2) (s' := (42, [some (vR 42), some (vR 2), some (vI s0), g3, g4], [vI 62, vR 2], σ2)) rfl ?_
      refine run_callN (w := fun a => some (vI a)) (m := 120) (as := [vR 2, vI 62]) (pc := 45) (ls := [some (vR 42), some (vR 2), some (vI s0), g3, g4]) (st' := []) (σ := σ2) hf rfl (fun _ h => (c_Tokens_isSigned h).mono (by decide)) (fun r5 hf => ?_)
      refine run_seg (k := 1) (s' := (if r5 = 0 then (48, [some (vR 42), some (vR 2), some (vI s0), g3, g4], [], σ2) else (54, [some (vR 42), some (vR 2), some (vI s0), g3, g4], [], σ2))) rfl ?_
      refine run_ite hf (fun _ hf => ?_) (fun _ hf => ?_)
      · refine run_seg (k := 2) (s' := (50, [some (vR 42), some (vR 2), some (vI s0), g3, g4], [vI 1, vR 2], σ2)) rfl ?_
        refine run_callW (w := fun a => some (vI a)) (m := 122) (as := [vR 2, vI 1]) (pc := 53) (ls := [some (vR 42), some (vR 2), some (vI s0), g3, g4]) (st' := []) (σ := σ2) hf rfl (fun _ _ h => (c_Tokens_fail h).mono (by decide)) (fun r6 σ7 hf => ?_)
        exact run_ret hf rfl
      · exact r_Sentence_readSized_54 hf
    · exact r_Sentence_readSized_54 hf
  · exact r_Sentence_readSized_54 hf
theorem c_Sentence_readSized {σ : xSt} {r : Int × xSt} (hf : f_Sentence_readSized σ = some r) : Call (2 + 1) 66 [vR 42, vR 2] σ (tIW r).1 (tIW r).2 := by
  unfold f_Sentence_readSized at hf
  refine call_of (own := 5) (rk := 2) (cd := kX5_readSized) (ls := [some (vR 42), some (vR 2), none, none, none]) (rT := tIW) rfl rfl rfl rfl rfl ?_
  refine run_seg (k := 2) (s' := (3, [some (vR 42), some (vR 2), none, none, none], [vR 145, vR 2], σ)) rfl ?_
  refine run_callN (w := fun a => some (vI a)) (m := 117) (as := [vR 2, vR 145]) (pc := 6) (ls := [some (vR 42), some (vR 2), none, none, none]) (st' := []) (σ := σ) hf rfl (fun _ h => (c_Tokens_is_145 h).mono (by decide)) (fun r1 hf => ?_)
  refine run_seg (k := 1) (s' := (if r1 = 0 then (14, [some (vR 42), some (vR 2), none, none, none], [], σ) else (9, [some (vR 42), some (vR 2), none, none, none], [], σ))) rfl ?_
  refine run_ite hf (fun _ hf => ?_) (fun _ hf => ?_)
  · refine run_seg (k := 1) (s' := (16, [some (vR 42), some (vR 2), none, none, none], [vI 7], σ)) rfl ?_
    exact r_Sentence_readSized_16 hf
  · refine run_seg (k := 2) (s' := (16, [some (vR 42), some (vR 2), none, none, none], [vI 6], σ)) rfl ?_
    exact r_Sentence_readSized_16 hf
/-- BentPenny$Sentence.readLike(LBentPenny$Tokens;LBentPenny$Table;)Z -/
def f_Sentence_readLike (σ : xSt) : Option (Int × xSt) :=
  xbR (f_Tokens_isName σ) fun r1 =>
  if r1 = 0 then (xbW (f_Tokens_fail 1 σ) fun r2 σ3 =>
  some (xnb r2, σ3))
  else (xbR (f_Table_endNamed 7 (σ 2 7) σ) fun r4 =>
  if r4 = (-1) then (xbW (f_Tokens_fail 3 σ) fun r5 σ6 =>
  some (xnb r5, σ6))
  else (xbR (f_Tokens_step σ) fun σ7 =>
  xbW (f_Sentence_add 3 0 r4 σ7) fun r8 σ9 =>
  some (xnb r8, σ9)))
theorem c_Sentence_readLike {σ : xSt} {r : Int × xSt} (hf : f_Sentence_readLike σ = some r) : Call (2 + 1) 67 [vR 42, vR 2, vR 7] σ (tIW r).1 (tIW r).2 := by
  unfold f_Sentence_readLike at hf
  refine call_of (own := 5) (rk := 2) (cd := kX5_readLike) (ls := [some (vR 42), some (vR 2), some (vR 7), none]) (rT := tIW) rfl rfl rfl rfl rfl ?_
  refine run_seg (k := 1) (s' := (1, [some (vR 42), some (vR 2), some (vR 7), none], [vR 2], σ)) rfl ?_
  refine run_callN (w := fun a => some (vI a)) (m := 118) (as := [vR 2]) (pc := 4) (ls := [some (vR 42), some (vR 2), some (vR 7), none]) (st' := []) (σ := σ) hf rfl (fun _ h => (c_Tokens_isName h).mono (by decide)) (fun r1 hf => ?_)
  refine run_seg (k := 1) (s' := (if r1 = 0 then (7, [some (vR 42), some (vR 2), some (vR 7), none], [], σ) else (13, [some (vR 42), some (vR 2), some (vR 7), none], [], σ))) rfl ?_
  refine run_ite hf (fun _ hf => ?_) (fun _ hf => ?_)
  · refine run_seg (k := 2) (s' := (9, [some (vR 42), some (vR 2), some (vR 7), none], [vI 1, vR 2], σ)) rfl ?_
    refine run_callW (w := fun a => some (vI a)) (m := 122) (as := [vR 2, vI 1]) (pc := 12) (ls := [some (vR 42), some (vR 2), some (vR 7), none]) (st' := []) (σ := σ) hf rfl (fun _ _ h => (c_Tokens_fail h).mono (by decide)) (fun r2 σ3 hf => ?_)
    exact run_ret hf rfl
  · refine run_seg (k := 3) (s' := (18, [some (vR 42), some (vR 2), some (vR 7), none], [vI (σ 2 7), vR 7], σ)) rfl ?_
    refine run_callN (w := fun a => some (vI a)) (m := 96) (as := [vR 7, vI (σ 2 7)]) (pc := 21) (ls := [some (vR 42), some (vR 2), some (vR 7), none]) (st' := []) (σ := σ) hf rfl (fun _ h => (c_Table_endNamed_7 h).mono (by decide)) (fun r4 hf => ?_)
    refine run_seg (k := 4) (s' := (if r4 = (-1) then (27, [some (vR 42), some (vR 2), some (vR 7), some (vI r4)], [], σ) else (33, [some (vR 42), some (vR 2), some (vR 7), some (vI r4)], [], σ))) rfl ?_
    refine run_ite hf (fun _ hf => ?_) (fun _ hf => ?_)
    · refine run_seg (k := 2) (s' := (29, [some (vR 42), some (vR 2), some (vR 7), some (vI r4)], [vI 3, vR 2], σ)) rfl ?_
      refine run_callW (w := fun a => some (vI a)) (m := 122) (as := [vR 2, vI 3]) (pc := 32) (ls := [some (vR 42), some (vR 2), some (vR 7), some (vI r4)]) (st' := []) (σ := σ) hf rfl (fun _ _ h => (c_Tokens_fail h).mono (by decide)) (fun r5 σ6 hf => ?_)
      exact run_ret hf rfl
    · refine run_seg (k := 1) (s' := (34, [some (vR 42), some (vR 2), some (vR 7), some (vI r4)], [vR 2], σ)) rfl ?_
      refine run_callV (m := 116) (as := [vR 2]) (pc := 37) (ls := [some (vR 42), some (vR 2), some (vR 7), some (vI r4)]) (st' := []) (σ := σ) hf rfl (fun _ h => (c_Tokens_step h).mono (by decide)) (fun σ7 hf => ?_)
      refine run_seg (k := 4) (s' := (41, [some (vR 42), some (vR 2), some (vR 7), some (vI r4)], [vI r4, vI 0, vI 3, vR 42], σ7)) rfl ?_
      refine run_callW (w := fun a => some (vI a)) (m := 61) (as := [vR 42, vI 3, vI 0, vI r4]) (pc := 44) (ls := [some (vR 42), some (vR 2), some (vR 7), some (vI r4)]) (st' := []) (σ := σ7) hf rfl (fun _ _ h => (c_Sentence_add h).mono (by decide)) (fun r8 σ9 hf => ?_)
      exact run_ret hf rfl
def f_Sentence_readAll_15 (q_Sentence_readAll : (Int → xSt → Option (Int × xSt))) (q_Sentence_readCondition : (Int → xSt → Option (Int × xSt))) (q_Sentence_readOne : (Int → xSt → Option (Int × xSt))) : Nat → Int → Int → xSt → Option (Int × xSt)
  | 0, _, _, _ => none
  | n + 1, l3, l4, σ =>
    if l4 < 20 then (xbR (f_Tokens_is 143 σ) fun r3 =>
    if r3 = 0 then (some (1, σ))
    else (xbR (f_Tokens_step σ) fun σ4 =>
    xbW (q_Sentence_readOne l3 σ4) fun r5 σ6 =>
    if r5 = 0 then (some (0, σ6))
    else (xbW (f_Sentence_add 1 0 0 σ6) fun r7 σ8 =>
    if r7 = 0 then (some (0, σ8))
    else (xlet (w32 (l4 + 1)) fun x9 =>
    f_Sentence_readAll_15 q_Sentence_readAll q_Sentence_readCondition q_Sentence_readOne n l3 x9 σ8))))
    else (some (1, σ))
/-- BentPenny$Sentence.readAll(LBentPenny$Tokens;LBentPenny$Table;I)Z -/
def f0_Sentence_readAll (q_Sentence_readAll : (Int → xSt → Option (Int × xSt))) (q_Sentence_readCondition : (Int → xSt → Option (Int × xSt))) (q_Sentence_readOne : (Int → xSt → Option (Int × xSt))) (p3 : Int) (σ : xSt) : Option (Int × xSt) :=
  xbW (q_Sentence_readOne p3 σ) fun r1 σ2 =>
  if r1 = 0 then (some (0, σ2))
  else (f_Sentence_readAll_15 q_Sentence_readAll q_Sentence_readCondition q_Sentence_readOne 1000000 p3 0 σ2)
theorem r_Sentence_readAll_15 {d : Nat} (hd : 3 ≤ d) {q_Sentence_readAll : (Int → xSt → Option (Int × xSt))} (hq_Sentence_readAll : ∀ {p3 : Int} {σ : xSt} {r : Int × xSt}, q_Sentence_readAll p3 σ = some r → Call d 64 [vR 42, vR 2, vR 7, vI p3] σ (tIW r).1 (tIW r).2) {q_Sentence_readCondition : (Int → xSt → Option (Int × xSt))} (hq_Sentence_readCondition : ∀ {p3 : Int} {σ : xSt} {r : Int × xSt}, q_Sentence_readCondition p3 σ = some r → Call d 63 [vR 42, vR 2, vR 7, vI p3] σ (tIW r).1 (tIW r).2) {q_Sentence_readOne : (Int → xSt → Option (Int × xSt))} (hq_Sentence_readOne : ∀ {p3 : Int} {σ : xSt} {r : Int × xSt}, q_Sentence_readOne p3 σ = some r → Call d 65 [vR 42, vR 2, vR 7, vI p3] σ (tIW r).1 (tIW r).2) : ∀ (n : Nat) {l3 : Int} {l4 : Int} {σ : xSt} {r : Int × xSt}, f_Sentence_readAll_15 q_Sentence_readAll q_Sentence_readCondition q_Sentence_readOne n l3 l4 σ = some r → Run d 5 2 kX5_readAll (15, [some (vR 42), some (vR 2), some (vR 7), some (vI l3), some (vI l4)], [], σ) (tIW r) := by
  intro n
  induction n with
  | zero =>
    intro _ _ _ _ h
    exact nomatch (show (none : Option (Int × xSt)) = some _ from h)
  | succ n ih =>
    intro l3 l4 σ r hf
    unfold f_Sentence_readAll_15 at hf
    refine run_seg (k := 3) (s' := (if l4 < 20 then (22, [some (vR 42), some (vR 2), some (vR 7), some (vI l3), some (vI l4)], [], σ) else (63, [some (vR 42), some (vR 2), some (vR 7), some (vI l3), some (vI l4)], [], σ))) rfl ?_
    refine run_ite hf (fun _ hf => ?_) (fun _ hf => ?_)
    · refine run_seg (k := 2) (s' := (25, [some (vR 42), some (vR 2), some (vR 7), some (vI l3), some (vI l4)], [vR 143, vR 2], σ)) rfl ?_
      refine run_callN (w := fun a => some (vI a)) (m := 117) (as := [vR 2, vR 143]) (pc := 28) (ls := [some (vR 42), some (vR 2), some (vR 7), some (vI l3), some (vI l4)]) (st' := []) (σ := σ) hf rfl (fun _ h => (c_Tokens_is_143 h).mono (Nat.le_trans (by decide) hd)) (fun r3 hf => ?_)
      refine run_seg (k := 1) (s' := (if r3 = 0 then (63, [some (vR 42), some (vR 2), some (vR 7), some (vI l3), some (vI l4)], [], σ) else (31, [some (vR 42), some (vR 2), some (vR 7), some (vI l3), some (vI l4)], [], σ))) rfl ?_
      refine run_ite hf (fun _ hf => ?_) (fun _ hf => ?_)
      · refine run_seg (k := 1) (s' := (64, [some (vR 42), some (vR 2), some (vR 7), some (vI l3), some (vI l4)], [vI 1], σ)) rfl ?_
        exact run_ret hf rfl
      · refine run_seg (k := 1) (s' := (32, [some (vR 42), some (vR 2), some (vR 7), some (vI l3), some (vI l4)], [vR 2], σ)) rfl ?_
        refine run_callV (m := 116) (as := [vR 2]) (pc := 35) (ls := [some (vR 42), some (vR 2), some (vR 7), some (vI l3), some (vI l4)]) (st' := []) (σ := σ) hf rfl (fun _ h => (c_Tokens_step h).mono (Nat.le_trans (by decide) hd)) (fun σ4 hf => ?_)
        refine run_seg (k := 4) (s' := (39, [some (vR 42), some (vR 2), some (vR 7), some (vI l3), some (vI l4)], [vI l3, vR 7, vR 2, vR 42], σ4)) rfl ?_
        refine run_callW (w := fun a => some (vI a)) (m := 65) (as := [vR 42, vR 2, vR 7, vI l3]) (pc := 42) (ls := [some (vR 42), some (vR 2), some (vR 7), some (vI l3), some (vI l4)]) (st' := []) (σ := σ4) hf rfl (fun _ _ h => (hq_Sentence_readOne h)) (fun r5 σ6 hf => ?_)
        refine run_seg (k := 1) (s' := (if r5 = 0 then (55, [some (vR 42), some (vR 2), some (vR 7), some (vI l3), some (vI l4)], [], σ6) else (45, [some (vR 42), some (vR 2), some (vR 7), some (vI l3), some (vI l4)], [], σ6))) rfl ?_
        refine run_ite hf (fun _ hf => ?_) (fun _ hf => ?_)
        · refine run_seg (k := 1) (s' := (56, [some (vR 42), some (vR 2), some (vR 7), some (vI l3), some (vI l4)], [vI 0], σ6)) rfl ?_
          exact run_ret hf rfl
        · refine run_seg (k := 4) (s' := (49, [some (vR 42), some (vR 2), some (vR 7), some (vI l3), some (vI l4)], [vI 0, vI 0, vI 1, vR 42], σ6)) rfl ?_
          refine run_callW (w := fun a => some (vI a)) (m := 61) (as := [vR 42, vI 1, vI 0, vI 0]) (pc := 52) (ls := [some (vR 42), some (vR 2), some (vR 7), some (vI l3), some (vI l4)]) (st' := []) (σ := σ6) hf rfl (fun _ _ h => (c_Sentence_add h).mono (Nat.le_trans (by decide) hd)) (fun r7 σ8 hf => ?_)
          refine run_seg (k := 1) (s' := (if r7 = 0 then (55, [some (vR 42), some (vR 2), some (vR 7), some (vI l3), some (vI l4)], [], σ8) else (57, [some (vR 42), some (vR 2), some (vR 7), some (vI l3), some (vI l4)], [], σ8))) rfl ?_
          refine run_ite hf (fun _ hf => ?_) (fun _ hf => ?_)
          · refine run_seg (k := 1) (s' := (56, [some (vR 42), some (vR 2), some (vR 7), some (vI l3), some (vI l4)], [vI 0], σ8)) rfl ?_
            exact run_ret hf rfl
          · refine run_seg (k := 1) (s' := (60, [some (vR 42), some (vR 2), some (vR 7), some (vI l3), some (vI (w32 (l4 + 1)))], [], σ8)) rfl ?_
            refine run_let (fun x9 => (60, [some (vR 42), some (vR 2), some (vR 7), some (vI l3), some (vI x9)], [], σ8)) hf (fun x9 hf => ?_)
            refine run_seg (k := 1) (s' := (15, [some (vR 42), some (vR 2), some (vR 7), some (vI l3), some (vI x9)], [], σ8)) rfl ?_
            exact ih hf
    · refine run_seg (k := 1) (s' := (64, [some (vR 42), some (vR 2), some (vR 7), some (vI l3), some (vI l4)], [vI 1], σ)) rfl ?_
      exact run_ret hf rfl
theorem c0_Sentence_readAll {d : Nat} (hd : 3 ≤ d) {q_Sentence_readAll : (Int → xSt → Option (Int × xSt))} (hq_Sentence_readAll : ∀ {p3 : Int} {σ : xSt} {r : Int × xSt}, q_Sentence_readAll p3 σ = some r → Call d 64 [vR 42, vR 2, vR 7, vI p3] σ (tIW r).1 (tIW r).2) {q_Sentence_readCondition : (Int → xSt → Option (Int × xSt))} (hq_Sentence_readCondition : ∀ {p3 : Int} {σ : xSt} {r : Int × xSt}, q_Sentence_readCondition p3 σ = some r → Call d 63 [vR 42, vR 2, vR 7, vI p3] σ (tIW r).1 (tIW r).2) {q_Sentence_readOne : (Int → xSt → Option (Int × xSt))} (hq_Sentence_readOne : ∀ {p3 : Int} {σ : xSt} {r : Int × xSt}, q_Sentence_readOne p3 σ = some r → Call d 65 [vR 42, vR 2, vR 7, vI p3] σ (tIW r).1 (tIW r).2) {p3 : Int} {σ : xSt} {r : Int × xSt} (hf : f0_Sentence_readAll q_Sentence_readAll q_Sentence_readCondition q_Sentence_readOne p3 σ = some r) : Call (d + 1) 64 [vR 42, vR 2, vR 7, vI p3] σ (tIW r).1 (tIW r).2 := by
  unfold f0_Sentence_readAll at hf
  refine call_of (own := 5) (rk := 2) (cd := kX5_readAll) (ls := [some (vR 42), some (vR 2), some (vR 7), some (vI p3), none]) (rT := tIW) rfl rfl rfl rfl rfl ?_
  refine run_seg (k := 4) (s' := (4, [some (vR 42), some (vR 2), some (vR 7), some (vI p3), none], [vI p3, vR 7, vR 2, vR 42], σ)) rfl ?_
  refine run_callW (w := fun a => some (vI a)) (m := 65) (as := [vR 42, vR 2, vR 7, vI p3]) (pc := 7) (ls := [some (vR 42), some (vR 2), some (vR 7), some (vI p3), none]) (st' := []) (σ := σ) hf rfl (fun _ _ h => (hq_Sentence_readOne h)) (fun r1 σ2 hf => ?_)
  refine run_seg (k := 1) (s' := (if r1 = 0 then (10, [some (vR 42), some (vR 2), some (vR 7), some (vI p3), none], [], σ2) else (12, [some (vR 42), some (vR 2), some (vR 7), some (vI p3), none], [], σ2))) rfl ?_
  refine run_ite hf (fun _ hf => ?_) (fun _ hf => ?_)
  · refine run_seg (k := 1) (s' := (11, [some (vR 42), some (vR 2), some (vR 7), some (vI p3), none], [vI 0], σ2)) rfl ?_
    exact run_ret hf rfl
  · refine run_seg (k := 2) (s' := (15, [some (vR 42), some (vR 2), some (vR 7), some (vI p3), some (vI 0)], [], σ2)) rfl ?_
    exact r_Sentence_readAll_15 hd hq_Sentence_readAll hq_Sentence_readCondition hq_Sentence_readOne 1000000 hf
def f_Sentence_readCondition_15 (q_Sentence_readAll : (Int → xSt → Option (Int × xSt))) (q_Sentence_readCondition : (Int → xSt → Option (Int × xSt))) (q_Sentence_readOne : (Int → xSt → Option (Int × xSt))) : Nat → Int → Int → xSt → Option (Int × xSt)
  | 0, _, _, _ => none
  | n + 1, l3, l4, σ =>
    if l4 < 20 then (xbR (f_Tokens_is 142 σ) fun r3 =>
    if r3 = 0 then (some (1, σ))
    else (xbR (f_Tokens_step σ) fun σ4 =>
    xbW (q_Sentence_readAll l3 σ4) fun r5 σ6 =>
    if r5 = 0 then (some (0, σ6))
    else (xbW (f_Sentence_add 2 0 0 σ6) fun r7 σ8 =>
    if r7 = 0 then (some (0, σ8))
    else (xlet (w32 (l4 + 1)) fun x9 =>
    f_Sentence_readCondition_15 q_Sentence_readAll q_Sentence_readCondition q_Sentence_readOne n l3 x9 σ8))))
    else (some (1, σ))
/-- BentPenny$Sentence.readCondition(LBentPenny$Tokens;LBentPenny$Table;I)Z -/
def f0_Sentence_readCondition (q_Sentence_readAll : (Int → xSt → Option (Int × xSt))) (q_Sentence_readCondition : (Int → xSt → Option (Int × xSt))) (q_Sentence_readOne : (Int → xSt → Option (Int × xSt))) (p3 : Int) (σ : xSt) : Option (Int × xSt) :=
  xbW (q_Sentence_readAll p3 σ) fun r1 σ2 =>
  if r1 = 0 then (some (0, σ2))
  else (f_Sentence_readCondition_15 q_Sentence_readAll q_Sentence_readCondition q_Sentence_readOne 1000000 p3 0 σ2)
theorem r_Sentence_readCondition_15 {d : Nat} (hd : 3 ≤ d) {q_Sentence_readAll : (Int → xSt → Option (Int × xSt))} (hq_Sentence_readAll : ∀ {p3 : Int} {σ : xSt} {r : Int × xSt}, q_Sentence_readAll p3 σ = some r → Call d 64 [vR 42, vR 2, vR 7, vI p3] σ (tIW r).1 (tIW r).2) {q_Sentence_readCondition : (Int → xSt → Option (Int × xSt))} (hq_Sentence_readCondition : ∀ {p3 : Int} {σ : xSt} {r : Int × xSt}, q_Sentence_readCondition p3 σ = some r → Call d 63 [vR 42, vR 2, vR 7, vI p3] σ (tIW r).1 (tIW r).2) {q_Sentence_readOne : (Int → xSt → Option (Int × xSt))} (hq_Sentence_readOne : ∀ {p3 : Int} {σ : xSt} {r : Int × xSt}, q_Sentence_readOne p3 σ = some r → Call d 65 [vR 42, vR 2, vR 7, vI p3] σ (tIW r).1 (tIW r).2) : ∀ (n : Nat) {l3 : Int} {l4 : Int} {σ : xSt} {r : Int × xSt}, f_Sentence_readCondition_15 q_Sentence_readAll q_Sentence_readCondition q_Sentence_readOne n l3 l4 σ = some r → Run d 5 2 kX5_readCondition (15, [some (vR 42), some (vR 2), some (vR 7), some (vI l3), some (vI l4)], [], σ) (tIW r) := by
  intro n
  induction n with
  | zero =>
    intro _ _ _ _ h
    exact nomatch (show (none : Option (Int × xSt)) = some _ from h)
  | succ n ih =>
    intro l3 l4 σ r hf
    unfold f_Sentence_readCondition_15 at hf
    refine run_seg (k := 3) (s' := (if l4 < 20 then (22, [some (vR 42), some (vR 2), some (vR 7), some (vI l3), some (vI l4)], [], σ) else (63, [some (vR 42), some (vR 2), some (vR 7), some (vI l3), some (vI l4)], [], σ))) rfl ?_
    refine run_ite hf (fun _ hf => ?_) (fun _ hf => ?_)
    · refine run_seg (k := 2) (s' := (25, [some (vR 42), some (vR 2), some (vR 7), some (vI l3), some (vI l4)], [vR 142, vR 2], σ)) rfl ?_
      refine run_callN (w := fun a => some (vI a)) (m := 117) (as := [vR 2, vR 142]) (pc := 28) (ls := [some (vR 42), some (vR 2), some (vR 7), some (vI l3), some (vI l4)]) (st' := []) (σ := σ) hf rfl (fun _ h => (c_Tokens_is_142 h).mono (Nat.le_trans (by decide) hd)) (fun r3 hf => ?_)
      refine run_seg (k := 1) (s' := (if r3 = 0 then (63, [some (vR 42), some (vR 2), some (vR 7), some (vI l3), some (vI l4)], [], σ) else (31, [some (vR 42), some (vR 2), some (vR 7), some (vI l3), some (vI l4)], [], σ))) rfl ?_
      refine run_ite hf (fun _ hf => ?_) (fun _ hf => ?_)
      · refine run_seg (k := 1) (s' := (64, [some (vR 42), some (vR 2), some (vR 7), some (vI l3), some (vI l4)], [vI 1], σ)) rfl ?_
        exact run_ret hf rfl
      · refine run_seg (k := 1) (s' := (32, [some (vR 42), some (vR 2), some (vR 7), some (vI l3), some (vI l4)], [vR 2], σ)) rfl ?_
        refine run_callV (m := 116) (as := [vR 2]) (pc := 35) (ls := [some (vR 42), some (vR 2), some (vR 7), some (vI l3), some (vI l4)]) (st' := []) (σ := σ) hf rfl (fun _ h => (c_Tokens_step h).mono (Nat.le_trans (by decide) hd)) (fun σ4 hf => ?_)
        refine run_seg (k := 4) (s' := (39, [some (vR 42), some (vR 2), some (vR 7), some (vI l3), some (vI l4)], [vI l3, vR 7, vR 2, vR 42], σ4)) rfl ?_
        refine run_callW (w := fun a => some (vI a)) (m := 64) (as := [vR 42, vR 2, vR 7, vI l3]) (pc := 42) (ls := [some (vR 42), some (vR 2), some (vR 7), some (vI l3), some (vI l4)]) (st' := []) (σ := σ4) hf rfl (fun _ _ h => (hq_Sentence_readAll h)) (fun r5 σ6 hf => ?_)
        refine run_seg (k := 1) (s' := (if r5 = 0 then (55, [some (vR 42), some (vR 2), some (vR 7), some (vI l3), some (vI l4)], [], σ6) else (45, [some (vR 42), some (vR 2), some (vR 7), some (vI l3), some (vI l4)], [], σ6))) rfl ?_
        refine run_ite hf (fun _ hf => ?_) (fun _ hf => ?_)
        · refine run_seg (k := 1) (s' := (56, [some (vR 42), some (vR 2), some (vR 7), some (vI l3), some (vI l4)], [vI 0], σ6)) rfl ?_
          exact run_ret hf rfl
        · refine run_seg (k := 4) (s' := (49, [some (vR 42), some (vR 2), some (vR 7), some (vI l3), some (vI l4)], [vI 0, vI 0, vI 2, vR 42], σ6)) rfl ?_
          refine run_callW (w := fun a => some (vI a)) (m := 61) (as := [vR 42, vI 2, vI 0, vI 0]) (pc := 52) (ls := [some (vR 42), some (vR 2), some (vR 7), some (vI l3), some (vI l4)]) (st' := []) (σ := σ6) hf rfl (fun _ _ h => (c_Sentence_add h).mono (Nat.le_trans (by decide) hd)) (fun r7 σ8 hf => ?_)
          refine run_seg (k := 1) (s' := (if r7 = 0 then (55, [some (vR 42), some (vR 2), some (vR 7), some (vI l3), some (vI l4)], [], σ8) else (57, [some (vR 42), some (vR 2), some (vR 7), some (vI l3), some (vI l4)], [], σ8))) rfl ?_
          refine run_ite hf (fun _ hf => ?_) (fun _ hf => ?_)
          · refine run_seg (k := 1) (s' := (56, [some (vR 42), some (vR 2), some (vR 7), some (vI l3), some (vI l4)], [vI 0], σ8)) rfl ?_
            exact run_ret hf rfl
          · refine run_seg (k := 1) (s' := (60, [some (vR 42), some (vR 2), some (vR 7), some (vI l3), some (vI (w32 (l4 + 1)))], [], σ8)) rfl ?_
            refine run_let (fun x9 => (60, [some (vR 42), some (vR 2), some (vR 7), some (vI l3), some (vI x9)], [], σ8)) hf (fun x9 hf => ?_)
            refine run_seg (k := 1) (s' := (15, [some (vR 42), some (vR 2), some (vR 7), some (vI l3), some (vI x9)], [], σ8)) rfl ?_
            exact ih hf
    · refine run_seg (k := 1) (s' := (64, [some (vR 42), some (vR 2), some (vR 7), some (vI l3), some (vI l4)], [vI 1], σ)) rfl ?_
      exact run_ret hf rfl
theorem c0_Sentence_readCondition {d : Nat} (hd : 3 ≤ d) {q_Sentence_readAll : (Int → xSt → Option (Int × xSt))} (hq_Sentence_readAll : ∀ {p3 : Int} {σ : xSt} {r : Int × xSt}, q_Sentence_readAll p3 σ = some r → Call d 64 [vR 42, vR 2, vR 7, vI p3] σ (tIW r).1 (tIW r).2) {q_Sentence_readCondition : (Int → xSt → Option (Int × xSt))} (hq_Sentence_readCondition : ∀ {p3 : Int} {σ : xSt} {r : Int × xSt}, q_Sentence_readCondition p3 σ = some r → Call d 63 [vR 42, vR 2, vR 7, vI p3] σ (tIW r).1 (tIW r).2) {q_Sentence_readOne : (Int → xSt → Option (Int × xSt))} (hq_Sentence_readOne : ∀ {p3 : Int} {σ : xSt} {r : Int × xSt}, q_Sentence_readOne p3 σ = some r → Call d 65 [vR 42, vR 2, vR 7, vI p3] σ (tIW r).1 (tIW r).2) {p3 : Int} {σ : xSt} {r : Int × xSt} (hf : f0_Sentence_readCondition q_Sentence_readAll q_Sentence_readCondition q_Sentence_readOne p3 σ = some r) : Call (d + 1) 63 [vR 42, vR 2, vR 7, vI p3] σ (tIW r).1 (tIW r).2 := by
  unfold f0_Sentence_readCondition at hf
  refine call_of (own := 5) (rk := 2) (cd := kX5_readCondition) (ls := [some (vR 42), some (vR 2), some (vR 7), some (vI p3), none]) (rT := tIW) rfl rfl rfl rfl rfl ?_
  refine run_seg (k := 4) (s' := (4, [some (vR 42), some (vR 2), some (vR 7), some (vI p3), none], [vI p3, vR 7, vR 2, vR 42], σ)) rfl ?_
  refine run_callW (w := fun a => some (vI a)) (m := 64) (as := [vR 42, vR 2, vR 7, vI p3]) (pc := 7) (ls := [some (vR 42), some (vR 2), some (vR 7), some (vI p3), none]) (st' := []) (σ := σ) hf rfl (fun _ _ h => (hq_Sentence_readAll h)) (fun r1 σ2 hf => ?_)
  refine run_seg (k := 1) (s' := (if r1 = 0 then (10, [some (vR 42), some (vR 2), some (vR 7), some (vI p3), none], [], σ2) else (12, [some (vR 42), some (vR 2), some (vR 7), some (vI p3), none], [], σ2))) rfl ?_
  refine run_ite hf (fun _ hf => ?_) (fun _ hf => ?_)
  · refine run_seg (k := 1) (s' := (11, [some (vR 42), some (vR 2), some (vR 7), some (vI p3), none], [vI 0], σ2)) rfl ?_
    exact run_ret hf rfl
  · refine run_seg (k := 2) (s' := (15, [some (vR 42), some (vR 2), some (vR 7), some (vI p3), some (vI 0)], [], σ2)) rfl ?_
    exact r_Sentence_readCondition_15 hd hq_Sentence_readAll hq_Sentence_readCondition hq_Sentence_readOne 1000000 hf
def f_Sentence_readOne_116 (q_Sentence_readAll : (Int → xSt → Option (Int × xSt))) (q_Sentence_readCondition : (Int → xSt → Option (Int × xSt))) (q_Sentence_readOne : (Int → xSt → Option (Int × xSt))) (σ : xSt) : Option (Int × xSt) :=
  xbW (f_Tokens_fail 4 σ) fun r25 σ26 =>
  some (xnb r25, σ26)
def f_Sentence_readOne_162 (q_Sentence_readAll : (Int → xSt → Option (Int × xSt))) (q_Sentence_readCondition : (Int → xSt → Option (Int × xSt))) (q_Sentence_readOne : (Int → xSt → Option (Int × xSt))) (s0 : Int) (σ : xSt) : Option (Int × xSt) :=
  xbR (f_Tokens_step σ) fun σ27 =>
  xbW (f_Sentence_add s0 0 0 σ27) fun r28 σ29 =>
  some (xnb r28, σ29)
def f_Sentence_readOne_101 (q_Sentence_readAll : (Int → xSt → Option (Int × xSt))) (q_Sentence_readCondition : (Int → xSt → Option (Int × xSt))) (q_Sentence_readOne : (Int → xSt → Option (Int × xSt))) (l3 : Int) (l4 : Int) (l5 : Int) (l6 : Int) (l7 : Int) (σ : xSt) : Option (Int × xSt) :=
  if σ 42 0 < 20 then (if 8 < l3 then (f_Sentence_readOne_116 q_Sentence_readAll q_Sentence_readCondition q_Sentence_readOne σ)
  else (xlet (upS σ 42 0 (w32 ((σ 42 0) + 1))) fun σ10 =>
  if l6 = 0 then (if l7 = 0 then (xbR (f_Tokens_step σ10) fun σ11 =>
  if l4 = 0 then (if l5 = 0 then (xbW (f_Sentence_readLike σ11) fun r12 σ13 =>
  some (xnb r12, σ13))
  else (xbW (q_Sentence_readCondition (w32 (l3 + 1)) σ11) fun r14 σ15 =>
  if r14 = 0 then (some (0, σ15))
  else (xbW (f_Tokens_pass 41 σ15) fun r16 σ17 =>
  if r16 = 0 then (some (0, σ17))
  else (some (1, σ17)))))
  else (xbW (q_Sentence_readOne (w32 (l3 + 1)) σ11) fun r18 σ19 =>
  if r18 = 0 then (some (0, σ19))
  else (xbW (f_Sentence_add 0 0 0 σ19) fun r20 σ21 =>
  if r20 = 0 then (some (0, σ21))
  else (some (1, σ21)))))
  else (xbR (f_Tokens_is 147 σ10) fun r22 =>
  if r22 = 0 then (f_Sentence_readOne_162 q_Sentence_readAll q_Sentence_readCondition q_Sentence_readOne 5 σ10)
  else (f_Sentence_readOne_162 q_Sentence_readAll q_Sentence_readCondition q_Sentence_readOne 4 σ10)))
  else (xbW (f_Sentence_readSized σ10) fun r23 σ24 =>
  some (xnb r23, σ24))))
  else (f_Sentence_readOne_116 q_Sentence_readAll q_Sentence_readCondition q_Sentence_readOne σ)
def f_Sentence_readOne_64 (q_Sentence_readAll : (Int → xSt → Option (Int × xSt))) (q_Sentence_readCondition : (Int → xSt → Option (Int × xSt))) (q_Sentence_readOne : (Int → xSt → Option (Int × xSt))) (l3 : Int) (l4 : Int) (l5 : Int) (l6 : Int) (s0 : Int) (σ : xSt) : Option (Int × xSt) :=
  if l4 = 0 then (if l5 = 0 then (if l6 = 0 then (if s0 = 0 then (xbR (f_Tokens_is 149 σ) fun r7 =>
  if r7 = 0 then (xbW (f_Tokens_fail 1 σ) fun r8 σ9 =>
  some (xnb r8, σ9))
  else (f_Sentence_readOne_101 q_Sentence_readAll q_Sentence_readCondition q_Sentence_readOne l3 l4 l5 l6 s0 σ))
  else (f_Sentence_readOne_101 q_Sentence_readAll q_Sentence_readCondition q_Sentence_readOne l3 l4 l5 l6 s0 σ))
  else (f_Sentence_readOne_101 q_Sentence_readAll q_Sentence_readCondition q_Sentence_readOne l3 l4 l5 l6 s0 σ))
  else (f_Sentence_readOne_101 q_Sentence_readAll q_Sentence_readCondition q_Sentence_readOne l3 l4 l5 l6 s0 σ))
  else (f_Sentence_readOne_101 q_Sentence_readAll q_Sentence_readCondition q_Sentence_readOne l3 l4 l5 l6 s0 σ)
def f_Sentence_readOne_59 (q_Sentence_readAll : (Int → xSt → Option (Int × xSt))) (q_Sentence_readCondition : (Int → xSt → Option (Int × xSt))) (q_Sentence_readOne : (Int → xSt → Option (Int × xSt))) (l3 : Int) (l4 : Int) (l5 : Int) (l6 : Int) (σ : xSt) : Option (Int × xSt) :=
  f_Sentence_readOne_64 q_Sentence_readAll q_Sentence_readCondition q_Sentence_readOne l3 l4 l5 l6 1 σ
def f_Sentence_readOne_39 (q_Sentence_readAll : (Int → xSt → Option (Int × xSt))) (q_Sentence_readCondition : (Int → xSt → Option (Int × xSt))) (q_Sentence_readOne : (Int → xSt → Option (Int × xSt))) (l3 : Int) (l4 : Int) (l5 : Int) (s0 : Int) (σ : xSt) : Option (Int × xSt) :=
  xbR (f_Tokens_is 147 σ) fun r5 =>
  if r5 = 0 then (xbR (f_Tokens_is 148 σ) fun r6 =>
  if r6 = 0 then (f_Sentence_readOne_64 q_Sentence_readAll q_Sentence_readCondition q_Sentence_readOne l3 l4 l5 s0 0 σ)
  else (f_Sentence_readOne_59 q_Sentence_readAll q_Sentence_readCondition q_Sentence_readOne l3 l4 l5 s0 σ))
  else (f_Sentence_readOne_59 q_Sentence_readAll q_Sentence_readCondition q_Sentence_readOne l3 l4 l5 s0 σ)
def f_Sentence_readOne_34 (q_Sentence_readAll : (Int → xSt → Option (Int × xSt))) (q_Sentence_readCondition : (Int → xSt → Option (Int × xSt))) (q_Sentence_readOne : (Int → xSt → Option (Int × xSt))) (l3 : Int) (l4 : Int) (l5 : Int) (σ : xSt) : Option (Int × xSt) :=
  f_Sentence_readOne_39 q_Sentence_readAll q_Sentence_readCondition q_Sentence_readOne l3 l4 l5 1 σ
/-- BentPenny$Sentence.readOne(LBentPenny$Tokens;LBentPenny$Table;I)Z -/
def f0_Sentence_readOne (q_Sentence_readAll : (Int → xSt → Option (Int × xSt))) (q_Sentence_readCondition : (Int → xSt → Option (Int × xSt))) (q_Sentence_readOne : (Int → xSt → Option (Int × xSt))) (p3 : Int) (σ : xSt) : Option (Int × xSt) :=
  xbR (f_Tokens_is 144 σ) fun r1 =>
  xbR (f_Tokens_isSigned 40 σ) fun r2 =>
  xbR (f_Tokens_is 145 σ) fun r3 =>
  if r3 = 0 then (xbR (f_Tokens_is 146 σ) fun r4 =>
  if r4 = 0 then (f_Sentence_readOne_39 q_Sentence_readAll q_Sentence_readCondition q_Sentence_readOne p3 r1 r2 0 σ)
  else (f_Sentence_readOne_34 q_Sentence_readAll q_Sentence_readCondition q_Sentence_readOne p3 r1 r2 σ))
  else (f_Sentence_readOne_34 q_Sentence_readAll q_Sentence_readCondition q_Sentence_readOne p3 r1 r2 σ)
theorem r_Sentence_readOne_116 {d : Nat} (hd : 3 ≤ d) {q_Sentence_readAll : (Int → xSt → Option (Int × xSt))} (hq_Sentence_readAll : ∀ {p3 : Int} {σ : xSt} {r : Int × xSt}, q_Sentence_readAll p3 σ = some r → Call d 64 [vR 42, vR 2, vR 7, vI p3] σ (tIW r).1 (tIW r).2) {q_Sentence_readCondition : (Int → xSt → Option (Int × xSt))} (hq_Sentence_readCondition : ∀ {p3 : Int} {σ : xSt} {r : Int × xSt}, q_Sentence_readCondition p3 σ = some r → Call d 63 [vR 42, vR 2, vR 7, vI p3] σ (tIW r).1 (tIW r).2) {q_Sentence_readOne : (Int → xSt → Option (Int × xSt))} (hq_Sentence_readOne : ∀ {p3 : Int} {σ : xSt} {r : Int × xSt}, q_Sentence_readOne p3 σ = some r → Call d 65 [vR 42, vR 2, vR 7, vI p3] σ (tIW r).1 (tIW r).2) {g0 : Option xV} {g2 : Option xV} {g3 : Option xV} {g4 : Option xV} {g5 : Option xV} {g6 : Option xV} {g7 : Option xV} {g8 : Option xV} {σ : xSt} {r : Int × xSt} (hf : f_Sentence_readOne_116 q_Sentence_readAll q_Sentence_readCondition q_Sentence_readOne σ = some r) : Run d 5 2 kX5_readOne (116, [g0, some (vR 2), g2, g3, g4, g5, g6, g7, g8], [], σ) (tIW r) := by
  unfold f_Sentence_readOne_116 at hf
  refine run_seg (k := 2) (s' := (118, [g0, some (vR 2), g2, g3, g4, g5, g6, g7, g8], [vI 4, vR 2], σ)) rfl ?_
  refine run_callW (w := fun a => some (vI a)) (m := 122) (as := [vR 2, vI 4]) (pc := 121) (ls := [g0, some (vR 2), g2, g3, g4, g5, g6, g7, g8]) (st' := []) (σ := σ) hf rfl (fun _ _ h => (c_Tokens_fail h).mono (Nat.le_trans (by decide) hd)) (fun r25 σ26 hf => ?_)
  exact run_ret hf rfl
theorem r_Sentence_readOne_162 {d : Nat} (hd : 3 ≤ d) {q_Sentence_readAll : (Int → xSt → Option (Int × xSt))} (hq_Sentence_readAll : ∀ {p3 : Int} {σ : xSt} {r : Int × xSt}, q_Sentence_readAll p3 σ = some r → Call d 64 [vR 42, vR 2, vR 7, vI p3] σ (tIW r).1 (tIW r).2) {q_Sentence_readCondition : (Int → xSt → Option (Int × xSt))} (hq_Sentence_readCondition : ∀ {p3 : Int} {σ : xSt} {r : Int × xSt}, q_Sentence_readCondition p3 σ = some r → Call d 63 [vR 42, vR 2, vR 7, vI p3] σ (tIW r).1 (tIW r).2) {q_Sentence_readOne : (Int → xSt → Option (Int × xSt))} (hq_Sentence_readOne : ∀ {p3 : Int} {σ : xSt} {r : Int × xSt}, q_Sentence_readOne p3 σ = some r → Call d 65 [vR 42, vR 2, vR 7, vI p3] σ (tIW r).1 (tIW r).2) {s0 : Int} {g2 : Option xV} {g3 : Option xV} {g4 : Option xV} {g5 : Option xV} {g6 : Option xV} {g7 : Option xV} {g8 : Option xV} {σ : xSt} {r : Int × xSt} (hf : f_Sentence_readOne_162 q_Sentence_readAll q_Sentence_readCondition q_Sentence_readOne s0 σ = some r) : Run d 5 2 kX5_readOne (162, [some (vR 42), some (vR 2), g2, g3, g4, g5, g6, g7, g8], [vI s0], σ) (tIW r) := by
  unfold f_Sentence_readOne_162 at hf
  refine run_seg (k := 2) (s' := (165, [some (vR 42), some (vR 2), g2, g3, g4, g5, g6, g7, some (vI s0)], [vR 2], σ)) rfl ?_
  refine run_callV (m := 116) (as := [vR 2]) (pc := 168) (ls := [some (vR 42), some (vR 2), g2, g3, g4, g5, g6, g7, some (vI s0)]) (st' := []) (σ := σ) hf rfl (fun _ h => (c_Tokens_step h).mono (Nat.le_trans (by decide) hd)) (fun σ27 hf => ?_)
  refine run_seg (k := 4) (s' := (173, [some (vR 42), some (vR 2), g2, g3, g4, g5, g6, g7, some (vI s0)], [vI 0, vI 0, vI s0, vR 42], σ27)) rfl ?_
  refine run_callW (w := fun a => some (vI a)) (m := 61) (as := [vR 42, vI s0, vI 0, vI 0]) (pc := 176) (ls := [some (vR 42), some (vR 2), g2, g3, g4, g5, g6, g7, some (vI s0)]) (st' := []) (σ := σ27) hf rfl (fun _ _ h => (c_Sentence_add h).mono (Nat.le_trans (by decide) hd)) (fun r28 σ29 hf => ?_)
  exact run_ret hf rfl
theorem r_Sentence_readOne_101 {d : Nat} (hd : 3 ≤ d) {q_Sentence_readAll : (Int → xSt → Option (Int × xSt))} (hq_Sentence_readAll : ∀ {p3 : Int} {σ : xSt} {r : Int × xSt}, q_Sentence_readAll p3 σ = some r → Call d 64 [vR 42, vR 2, vR 7, vI p3] σ (tIW r).1 (tIW r).2) {q_Sentence_readCondition : (Int → xSt → Option (Int × xSt))} (hq_Sentence_readCondition : ∀ {p3 : Int} {σ : xSt} {r : Int × xSt}, q_Sentence_readCondition p3 σ = some r → Call d 63 [vR 42, vR 2, vR 7, vI p3] σ (tIW r).1 (tIW r).2) {q_Sentence_readOne : (Int → xSt → Option (Int × xSt))} (hq_Sentence_readOne : ∀ {p3 : Int} {σ : xSt} {r : Int × xSt}, q_Sentence_readOne p3 σ = some r → Call d 65 [vR 42, vR 2, vR 7, vI p3] σ (tIW r).1 (tIW r).2) {l3 : Int} {l4 : Int} {l5 : Int} {l6 : Int} {l7 : Int} {g8 : Option xV} {σ : xSt} {r : Int × xSt} (hf : f_Sentence_readOne_101 q_Sentence_readAll q_Sentence_readCondition q_Sentence_readOne l3 l4 l5 l6 l7 σ = some r) : Run d 5 2 kX5_readOne (101, [some (vR 42), some (vR 2), some (vR 7), some (vI l3), some (vI l4), some (vI l5), some (vI l6), some (vI l7), g8], [], σ) (tIW r) := by
  unfold f_Sentence_readOne_101 at hf
  refine run_seg (k := 4) (s' := (if σ 42 0 < 20 then (110, [some (vR 42), some (vR 2), some (vR 7), some (vI l3), some (vI l4), some (vI l5), some (vI l6), some (vI l7), g8], [], σ) else (116, [some (vR 42), some (vR 2), some (vR 7), some (vI l3), some (vI l4), some (vI l5), some (vI l6), some (vI l7), g8], [], σ))) rfl ?_
  refine run_ite hf (fun _ hf => ?_) (fun _ hf => ?_)
  · refine run_seg (k := 3) (s' := (if 8 < l3 then (116, [some (vR 42), some (vR 2), some (vR 7), some (vI l3), some (vI l4), some (vI l5), some (vI l6), some (vI l7), g8], [], σ) else (122, [some (vR 42), some (vR 2), some (vR 7), some (vI l3), some (vI l4), some (vI l5), some (vI l6), some (vI l7), g8], [], σ))) rfl ?_
    refine run_ite hf (fun _ hf => ?_) (fun _ hf => ?_)
    · exact r_Sentence_readOne_116 hd hq_Sentence_readAll hq_Sentence_readCondition hq_Sentence_readOne hf
    · refine run_seg (k := 6) (s' := (132, [some (vR 42), some (vR 2), some (vR 7), some (vI l3), some (vI l4), some (vI l5), some (vI l6), some (vI l7), g8], [], upS σ 42 0 (w32 ((σ 42 0) + 1)))) rfl ?_
      refine run_let (fun σ10 => (132, [some (vR 42), some (vR 2), some (vR 7), some (vI l3), some (vI l4), some (vI l5), some (vI l6), some (vI l7), g8], [], σ10)) hf (fun σ10 hf => ?_)
      refine run_seg (k := 2) (s' := (if l6 = 0 then (143, [some (vR 42), some (vR 2), some (vR 7), some (vI l3), some (vI l4), some (vI l5), some (vI l6), some (vI l7), g8], [], σ10) else (137, [some (vR 42), some (vR 2), some (vR 7), some (vI l3), some (vI l4), some (vI l5), some (vI l6), some (vI l7), g8], [], σ10))) rfl ?_
      refine run_ite hf (fun _ hf => ?_) (fun _ hf => ?_)
      · refine run_seg (k := 2) (s' := (if l7 = 0 then (177, [some (vR 42), some (vR 2), some (vR 7), some (vI l3), some (vI l4), some (vI l5), some (vI l6), some (vI l7), g8], [], σ10) else (148, [some (vR 42), some (vR 2), some (vR 7), some (vI l3), some (vI l4), some (vI l5), some (vI l6), some (vI l7), g8], [], σ10))) rfl ?_
        refine run_ite hf (fun _ hf => ?_) (fun _ hf => ?_)
        · refine run_seg (k := 1) (s' := (178, [some (vR 42), some (vR 2), some (vR 7), some (vI l3), some (vI l4), some (vI l5), some (vI l6), some (vI l7), g8], [vR 2], σ10)) rfl ?_
          refine run_callV (m := 116) (as := [vR 2]) (pc := 181) (ls := [some (vR 42), some (vR 2), some (vR 7), some (vI l3), some (vI l4), some (vI l5), some (vI l6), some (vI l7), g8]) (st' := []) (σ := σ10) hf rfl (fun _ h => (c_Tokens_step h).mono (Nat.le_trans (by decide) hd)) (fun σ11 hf => ?_)
          refine run_seg (k := 2) (s' := (if l4 = 0 then (214, [some (vR 42), some (vR 2), some (vR 7), some (vI l3), some (vI l4), some (vI l5), some (vI l6), some (vI l7), g8], [], σ11) else (186, [some (vR 42), some (vR 2), some (vR 7), some (vI l3), some (vI l4), some (vI l5), some (vI l6), some (vI l7), g8], [], σ11))) rfl ?_
          refine run_ite hf (fun _ hf => ?_) (fun _ hf => ?_)
          · refine run_seg (k := 2) (s' := (if l5 = 0 then (246, [some (vR 42), some (vR 2), some (vR 7), some (vI l3), some (vI l4), some (vI l5), some (vI l6), some (vI l7), g8], [], σ11) else (219, [some (vR 42), some (vR 2), some (vR 7), some (vI l3), some (vI l4), some (vI l5), some (vI l6), some (vI l7), g8], [], σ11))) rfl ?_
            refine run_ite hf (fun _ hf => ?_) (fun _ hf => ?_)
            · refine run_seg (k := 3) (s' := (249, [some (vR 42), some (vR 2), some (vR 7), some (vI l3), some (vI l4), some (vI l5), some (vI l6), some (vI l7), g8], [vR 7, vR 2, vR 42], σ11)) rfl ?_
              refine run_callW (w := fun a => some (vI a)) (m := 67) (as := [vR 42, vR 2, vR 7]) (pc := 252) (ls := [some (vR 42), some (vR 2), some (vR 7), some (vI l3), some (vI l4), some (vI l5), some (vI l6), some (vI l7), g8]) (st' := []) (σ := σ11) hf rfl (fun _ _ h => (c_Sentence_readLike h).mono (Nat.le_trans (by decide) hd)) (fun r12 σ13 hf => ?_)
              exact run_ret hf rfl
            · refine run_seg (k := 6) (s' := (225, [some (vR 42), some (vR 2), some (vR 7), some (vI l3), some (vI l4), some (vI l5), some (vI l6), some (vI l7), g8], [vI (w32 (l3 + 1)), vR 7, vR 2, vR 42], σ11)) rfl ?_
              refine run_callW (w := fun a => some (vI a)) (m := 63) (as := [vR 42, vR 2, vR 7, vI (w32 (l3 + 1))]) (pc := 228) (ls := [some (vR 42), some (vR 2), some (vR 7), some (vI l3), some (vI l4), some (vI l5), some (vI l6), some (vI l7), g8]) (st' := []) (σ := σ11) hf rfl (fun _ _ h => (hq_Sentence_readCondition h)) (fun r14 σ15 hf => ?_)
              refine run_seg (k := 1) (s' := (if r14 = 0 then (244, [some (vR 42), some (vR 2), some (vR 7), some (vI l3), some (vI l4), some (vI l5), some (vI l6), some (vI l7), g8], [], σ15) else (231, [some (vR 42), some (vR 2), some (vR 7), some (vI l3), some (vI l4), some (vI l5), some (vI l6), some (vI l7), g8], [], σ15))) rfl ?_
              refine run_ite hf (fun _ hf => ?_) (fun _ hf => ?_)
              · refine run_seg (k := 1) (s' := (245, [some (vR 42), some (vR 2), some (vR 7), some (vI l3), some (vI l4), some (vI l5), some (vI l6), some (vI l7), g8], [vI 0], σ15)) rfl ?_
                exact run_ret hf rfl
              · refine run_seg (k := 2) (s' := (234, [some (vR 42), some (vR 2), some (vR 7), some (vI l3), some (vI l4), some (vI l5), some (vI l6), some (vI l7), g8], [vI 41, vR 2], σ15)) rfl ?_
                refine run_callW (w := fun a => some (vI a)) (m := 123) (as := [vR 2, vI 41]) (pc := 237) (ls := [some (vR 42), some (vR 2), some (vR 7), some (vI l3), some (vI l4), some (vI l5), some (vI l6), some (vI l7), g8]) (st' := []) (σ := σ15) hf rfl (fun _ _ h => (c_Tokens_pass h).mono (Nat.le_trans (by decide) hd)) (fun r16 σ17 hf => ?_)
                refine run_seg (k := 1) (s' := (if r16 = 0 then (244, [some (vR 42), some (vR 2), some (vR 7), some (vI l3), some (vI l4), some (vI l5), some (vI l6), some (vI l7), g8], [], σ17) else (240, [some (vR 42), some (vR 2), some (vR 7), some (vI l3), some (vI l4), some (vI l5), some (vI l6), some (vI l7), g8], [], σ17))) rfl ?_
                refine run_ite hf (fun _ hf => ?_) (fun _ hf => ?_)
                · refine run_seg (k := 1) (s' := (245, [some (vR 42), some (vR 2), some (vR 7), some (vI l3), some (vI l4), some (vI l5), some (vI l6), some (vI l7), g8], [vI 0], σ17)) rfl ?_
                  exact run_ret hf rfl
                · refine run_seg (k := 2) (s' := (245, [some (vR 42), some (vR 2), some (vR 7), some (vI l3), some (vI l4), some (vI l5), some (vI l6), some (vI l7), g8], [vI 1], σ17)) rfl ?_
                  exact run_ret hf rfl
          · refine run_seg (k := 6) (s' := (192, [some (vR 42), some (vR 2), some (vR 7), some (vI l3), some (vI l4), some (vI l5), some (vI l6), some (vI l7), g8], [vI (w32 (l3 + 1)), vR 7, vR 2, vR 42], σ11)) rfl ?_
            refine run_callW (w := fun a => some (vI a)) (m := 65) (as := [vR 42, vR 2, vR 7, vI (w32 (l3 + 1))]) (pc := 195) (ls := [some (vR 42), some (vR 2), some (vR 7), some (vI l3), some (vI l4), some (vI l5), some (vI l6), some (vI l7), g8]) (st' := []) (σ := σ11) hf rfl (fun _ _ h => (hq_Sentence_readOne h)) (fun r18 σ19 hf => ?_)
            refine run_seg (k := 1) (s' := (if r18 = 0 then (212, [some (vR 42), some (vR 2), some (vR 7), some (vI l3), some (vI l4), some (vI l5), some (vI l6), some (vI l7), g8], [], σ19) else (198, [some (vR 42), some (vR 2), some (vR 7), some (vI l3), some (vI l4), some (vI l5), some (vI l6), some (vI l7), g8], [], σ19))) rfl ?_
            refine run_ite hf (fun _ hf => ?_) (fun _ hf => ?_)
            · refine run_seg (k := 1) (s' := (213, [some (vR 42), some (vR 2), some (vR 7), some (vI l3), some (vI l4), some (vI l5), some (vI l6), some (vI l7), g8], [vI 0], σ19)) rfl ?_
              exact run_ret hf rfl
            · refine run_seg (k := 4) (s' := (202, [some (vR 42), some (vR 2), some (vR 7), some (vI l3), some (vI l4), some (vI l5), some (vI l6), some (vI l7), g8], [vI 0, vI 0, vI 0, vR 42], σ19)) rfl ?_
              refine run_callW (w := fun a => some (vI a)) (m := 61) (as := [vR 42, vI 0, vI 0, vI 0]) (pc := 205) (ls := [some (vR 42), some (vR 2), some (vR 7), some (vI l3), some (vI l4), some (vI l5), some (vI l6), some (vI l7), g8]) (st' := []) (σ := σ19) hf rfl (fun _ _ h => (c_Sentence_add h).mono (Nat.le_trans (by decide) hd)) (fun r20 σ21 hf => ?_)
              refine run_seg (k := 1) (s' := (if r20 = 0 then (212, [some (vR 42), some (vR 2), some (vR 7), some (vI l3), some (vI l4), some (vI l5), some (vI l6), some (vI l7), g8], [], σ21) else (208, [some (vR 42), some (vR 2), some (vR 7), some (vI l3), some (vI l4), some (vI l5), some (vI l6), some (vI l7), g8], [], σ21))) rfl ?_
              refine run_ite hf (fun _ hf => ?_) (fun _ hf => ?_)
              · refine run_seg (k := 1) (s' := (213, [some (vR 42), some (vR 2), some (vR 7), some (vI l3), some (vI l4), some (vI l5), some (vI l6), some (vI l7), g8], [vI 0], σ21)) rfl ?_
                exact run_ret hf rfl
              · refine run_seg (k := 2) (s' := (213, [some (vR 42), some (vR 2), some (vR 7), some (vI l3), some (vI l4), some (vI l5), some (vI l6), some (vI l7), g8], [vI 1], σ21)) rfl ?_
                exact run_ret hf rfl
        · refine run_seg (k := 2) (s' := (151, [some (vR 42), some (vR 2), some (vR 7), some (vI l3), some (vI l4), some (vI l5), some (vI l6), some (vI l7), g8], [vR 147, vR 2], σ10)) rfl ?_
          refine run_callN (w := fun a => some (vI a)) (m := 117) (as := [vR 2, vR 147]) (pc := 154) (ls := [some (vR 42), some (vR 2), some (vR 7), some (vI l3), some (vI l4), some (vI l5), some (vI l6), some (vI l7), g8]) (st' := []) (σ := σ10) hf rfl (fun _ h => (c_Tokens_is_147 h).mono (Nat.le_trans (by decide) hd)) (fun r22 hf => ?_)
          refine run_seg (k := 1) (s' := (if r22 = 0 then (161, [some (vR 42), some (vR 2), some (vR 7), some (vI l3), some (vI l4), some (vI l5), some (vI l6), some (vI l7), g8], [], σ10) else (157, [some (vR 42), some (vR 2), some (vR 7), some (vI l3), some (vI l4), some (vI l5), some (vI l6), some (vI l7), g8], [], σ10))) rfl ?_
          refine run_ite hf (fun _ hf => ?_) (fun _ hf => ?_)
          · refine run_seg (k := 1) (s' := (162, [some (vR 42), some (vR 2), some (vR 7), some (vI l3), some (vI l4), some (vI l5), some (vI l6), some (vI l7), g8], [vI 5], σ10)) rfl ?_
            exact r_Sentence_readOne_162 hd hq_Sentence_readAll hq_Sentence_readCondition hq_Sentence_readOne hf
          · refine run_seg (k := 2) (s' := (162, [some (vR 42), some (vR 2), some (vR 7), some (vI l3), some (vI l4), some (vI l5), some (vI l6), some (vI l7), g8], [vI 4], σ10)) rfl ?_
            exact r_Sentence_readOne_162 hd hq_Sentence_readAll hq_Sentence_readCondition hq_Sentence_readOne hf
      · refine run_seg (k := 2) (s' := (139, [some (vR 42), some (vR 2), some (vR 7), some (vI l3), some (vI l4), some (vI l5), some (vI l6), some (vI l7), g8], [vR 2, vR 42], σ10)) rfl ?_
        refine run_callW (w := fun a => some (vI a)) (m := 66) (as := [vR 42, vR 2]) (pc := 142) (ls := [some (vR 42), some (vR 2), some (vR 7), some (vI l3), some (vI l4), some (vI l5), some (vI l6), some (vI l7), g8]) (st' := []) (σ := σ10) hf rfl (fun _ _ h => (c_Sentence_readSized h).mono (Nat.le_trans (by decide) hd)) (fun r23 σ24 hf => ?_)
        exact run_ret hf rfl
  · exact r_Sentence_readOne_116 hd hq_Sentence_readAll hq_Sentence_readCondition hq_Sentence_readOne hf
theorem r_Sentence_readOne_64 {d : Nat} (hd : 3 ≤ d) {q_Sentence_readAll : (Int → xSt → Option (Int × xSt))} (hq_Sentence_readAll : ∀ {p3 : Int} {σ : xSt} {r : Int × xSt}, q_Sentence_readAll p3 σ = some r → Call d 64 [vR 42, vR 2, vR 7, vI p3] σ (tIW r).1 (tIW r).2) {q_Sentence_readCondition : (Int → xSt → Option (Int × xSt))} (hq_Sentence_readCondition : ∀ {p3 : Int} {σ : xSt} {r : Int × xSt}, q_Sentence_readCondition p3 σ = some r → Call d 63 [vR 42, vR 2, vR 7, vI p3] σ (tIW r).1 (tIW r).2) {q_Sentence_readOne : (Int → xSt → Option (Int × xSt))} (hq_Sentence_readOne : ∀ {p3 : Int} {σ : xSt} {r : Int × xSt}, q_Sentence_readOne p3 σ = some r → Call d 65 [vR 42, vR 2, vR 7, vI p3] σ (tIW r).1 (tIW r).2) {l3 : Int} {l4 : Int} {l5 : Int} {l6 : Int} {s0 : Int} {g7 : Option xV} {g8 : Option xV} {σ : xSt} {r : Int × xSt} (hf : f_Sentence_readOne_64 q_Sentence_readAll q_Sentence_readCondition q_Sentence_readOne l3 l4 l5 l6 s0 σ = some r) : Run d 5 2 kX5_readOne (64, [some (vR 42), some (vR 2), some (vR 7), some (vI l3), some (vI l4), some (vI l5), some (vI l6), g7, g8], [vI s0], σ) (tIW r) := by
  unfold f_Sentence_readOne_64 at hf
  refine run_seg (k := 3) (s' := (if l4 = 0 then (71, [some (vR 42), some (vR 2), some (vR 7), some (vI l3), some (vI l4), some (vI l5), some (vI l6), some (vI s0), g8], [], σ) else (101, [some (vR 42), some (vR 2), some (vR 7), some (vI l3), some (vI l4), some (vI l5), some (vI l6), some (vI s0), g8], [], σ))) rfl ?_
  refine run_ite hf (fun _ hf => ?_) (fun _ hf => ?_)
  · refine run_seg (k := 2) (s' := (if l5 = 0 then (76, [some (vR 42), some (vR 2), some (vR 7), some (vI l3), some (vI l4), some (vI l5), some (vI l6), some (vI s0), g8], [], σ) else (101, [some (vR 42), some (vR 2), some (vR 7), some (vI l3), some (vI l4), some (vI l5), some (vI l6), some (vI s0), g8], [], σ))) rfl ?_
    refine run_ite hf (fun _ hf => ?_) (fun _ hf => ?_)
    · refine run_seg (k := 2) (s' := (if l6 = 0 then (81, [some (vR 42), some (vR 2), some (vR 7), some (vI l3), some (vI l4), some (vI l5), some (vI l6), some (vI s0), g8], [], σ) else (101, [some (vR 42), some (vR 2), some (vR 7), some (vI l3), some (vI l4), some (vI l5), some (vI l6), some (vI s0), g8], [], σ))) rfl ?_
      refine run_ite hf (fun _ hf => ?_) (fun _ hf => ?_)
      · refine run_seg (k := 2) (s' := (if s0 = 0 then (86, [some (vR 42), some (vR 2), some (vR 7), some (vI l3), some (vI l4), some (vI l5), some (vI l6), some (vI s0), g8], [], σ) else (101, [some (vR 42), some (vR 2), some (vR 7), some (vI l3), some (vI l4), some (vI l5), some (vI l6), some (vI s0), g8], [], σ))) rfl ?_
        refine run_ite hf (fun _ hf => ?_) (fun _ hf => ?_)
        · refine run_seg (k := 2) (s' := (89, [some (vR 42), some (vR 2), some (vR 7), some (vI l3), some (vI l4), some (vI l5), some (vI l6), some (vI s0), g8], [vR 149, vR 2], σ)) rfl ?_
          refine run_callN (w := fun a => some (vI a)) (m := 117) (as := [vR 2, vR 149]) (pc := 92) (ls := [some (vR 42), some (vR 2), some (vR 7), some (vI l3), some (vI l4), some (vI l5), some (vI l6), some (vI s0), g8]) (st' := []) (σ := σ) hf rfl (fun _ h => (c_Tokens_is_149 h).mono (Nat.le_trans (by decide) hd)) (fun r7 hf => ?_)
          refine run_seg (k := 1) (s' := (if r7 = 0 then (95, [some (vR 42), some (vR 2), some (vR 7), some (vI l3), some (vI l4), some (vI l5), some (vI l6), some (vI s0), g8], [], σ) else (101, [some (vR 42), some (vR 2), some (vR 7), some (vI l3), some (vI l4), some (vI l5), some (vI l6), some (vI s0), g8], [], σ))) rfl ?_
          refine run_ite hf (fun _ hf => ?_) (fun _ hf => ?_)
          · refine run_seg (k := 2) (s' := (97, [some (vR 42), some (vR 2), some (vR 7), some (vI l3), some (vI l4), some (vI l5), some (vI l6), some (vI s0), g8], [vI 1, vR 2], σ)) rfl ?_
            refine run_callW (w := fun a => some (vI a)) (m := 122) (as := [vR 2, vI 1]) (pc := 100) (ls := [some (vR 42), some (vR 2), some (vR 7), some (vI l3), some (vI l4), some (vI l5), some (vI l6), some (vI s0), g8]) (st' := []) (σ := σ) hf rfl (fun _ _ h => (c_Tokens_fail h).mono (Nat.le_trans (by decide) hd)) (fun r8 σ9 hf => ?_)
            exact run_ret hf rfl
          · exact r_Sentence_readOne_101 hd hq_Sentence_readAll hq_Sentence_readCondition hq_Sentence_readOne hf
        · exact r_Sentence_readOne_101 hd hq_Sentence_readAll hq_Sentence_readCondition hq_Sentence_readOne hf
      · exact r_Sentence_readOne_101 hd hq_Sentence_readAll hq_Sentence_readCondition hq_Sentence_readOne hf
    · exact r_Sentence_readOne_101 hd hq_Sentence_readAll hq_Sentence_readCondition hq_Sentence_readOne hf
  · exact r_Sentence_readOne_101 hd hq_Sentence_readAll hq_Sentence_readCondition hq_Sentence_readOne hf
theorem r_Sentence_readOne_59 {d : Nat} (hd : 3 ≤ d) {q_Sentence_readAll : (Int → xSt → Option (Int × xSt))} (hq_Sentence_readAll : ∀ {p3 : Int} {σ : xSt} {r : Int × xSt}, q_Sentence_readAll p3 σ = some r → Call d 64 [vR 42, vR 2, vR 7, vI p3] σ (tIW r).1 (tIW r).2) {q_Sentence_readCondition : (Int → xSt → Option (Int × xSt))} (hq_Sentence_readCondition : ∀ {p3 : Int} {σ : xSt} {r : Int × xSt}, q_Sentence_readCondition p3 σ = some r → Call d 63 [vR 42, vR 2, vR 7, vI p3] σ (tIW r).1 (tIW r).2) {q_Sentence_readOne : (Int → xSt → Option (Int × xSt))} (hq_Sentence_readOne : ∀ {p3 : Int} {σ : xSt} {r : Int × xSt}, q_Sentence_readOne p3 σ = some r → Call d 65 [vR 42, vR 2, vR 7, vI p3] σ (tIW r).1 (tIW r).2) {l3 : Int} {l4 : Int} {l5 : Int} {l6 : Int} {g7 : Option xV} {g8 : Option xV} {σ : xSt} {r : Int × xSt} (hf : f_Sentence_readOne_59 q_Sentence_readAll q_Sentence_readCondition q_Sentence_readOne l3 l4 l5 l6 σ = some r) : Run d 5 2 kX5_readOne (59, [some (vR 42), some (vR 2), some (vR 7), some (vI l3), some (vI l4), some (vI l5), some (vI l6), g7, g8], [], σ) (tIW r) := by
  unfold f_Sentence_readOne_59 at hf
  refine run_seg (k := 2) (s' := (64, [some (vR 42), some (vR 2), some (vR 7), some (vI l3), some (vI l4), some (vI l5), some (vI l6), g7, g8], [vI 1], σ)) rfl ?_
  exact r_Sentence_readOne_64 hd hq_Sentence_readAll hq_Sentence_readCondition hq_Sentence_readOne hf
theorem r_Sentence_readOne_39 {d : Nat} (hd : 3 ≤ d) {q_Sentence_readAll : (Int → xSt → Option (Int × xSt))} (hq_Sentence_readAll : ∀ {p3 : Int} {σ : xSt} {r : Int × xSt}, q_Sentence_readAll p3 σ = some r → Call d 64 [vR 42, vR 2, vR 7, vI p3] σ (tIW r).1 (tIW r).2) {q_Sentence_readCondition : (Int → xSt → Option (Int × xSt))} (hq_Sentence_readCondition : ∀ {p3 : Int} {σ : xSt} {r : Int × xSt}, q_Sentence_readCondition p3 σ = some r → Call d 63 [vR 42, vR 2, vR 7, vI p3] σ (tIW r).1 (tIW r).2) {q_Sentence_readOne : (Int → xSt → Option (Int × xSt))} (hq_Sentence_readOne : ∀ {p3 : Int} {σ : xSt} {r : Int × xSt}, q_Sentence_readOne p3 σ = some r → Call d 65 [vR 42, vR 2, vR 7, vI p3] σ (tIW r).1 (tIW r).2) {l3 : Int} {l4 : Int} {l5 : Int} {s0 : Int} {g6 : Option xV} {g7 : Option xV} {g8 : Option xV} {σ : xSt} {r : Int × xSt} (hf : f_Sentence_readOne_39 q_Sentence_readAll q_Sentence_readCondition q_Sentence_readOne l3 l4 l5 s0 σ = some r) : Run d 5 2 kX5_readOne (39, [some (vR 42), some (vR 2), some (vR 7), some (vI l3), some (vI l4), some (vI l5), g6, g7, g8], [vI s0], σ) (tIW r) := by
  unfold f_Sentence_readOne_39 at hf
  refine run_seg (k := 3) (s' := (44, [some (vR 42), some (vR 2), some (vR 7), some (vI l3), some (vI l4), some (vI l5), some (vI s0), g7, g8], [vR 147, vR 2], σ)) rfl ?_
  refine run_callN (w := fun a => some (vI a)) (m := 117) (as := [vR 2, vR 147]) (pc := 47) (ls := [some (vR 42), some (vR 2), some (vR 7), some (vI l3), some (vI l4), some (vI l5), some (vI s0), g7, g8]) (st' := []) (σ := σ) hf rfl (fun _ h => (c_Tokens_is_147 h).mono (Nat.le_trans (by decide) hd)) (fun r5 hf => ?_)
  refine run_seg (k := 1) (s' := (if r5 = 0 then (50, [some (vR 42), some (vR 2), some (vR 7), some (vI l3), some (vI l4), some (vI l5), some (vI s0), g7, g8], [], σ) else (59, [some (vR 42), some (vR 2), some (vR 7), some (vI l3), some (vI l4), some (vI l5), some (vI s0), g7, g8], [], σ))) rfl ?_
  refine run_ite hf (fun _ hf => ?_) (fun _ hf => ?_)
  · refine run_seg (k := 2) (s' := (53, [some (vR 42), some (vR 2), some (vR 7), some (vI l3), some (vI l4), some (vI l5), some (vI s0), g7, g8], [vR 148, vR 2], σ)) rfl ?_
    refine run_callN (w := fun a => some (vI a)) (m := 117) (as := [vR 2, vR 148]) (pc := 56) (ls := [some (vR 42), some (vR 2), some (vR 7), some (vI l3), some (vI l4), some (vI l5), some (vI s0), g7, g8]) (st' := []) (σ := σ) hf rfl (fun _ h => (c_Tokens_is_148 h).mono (Nat.le_trans (by decide) hd)) (fun r6 hf => ?_)
    refine run_seg (k := 1) (s' := (if r6 = 0 then (63, [some (vR 42), some (vR 2), some (vR 7), some (vI l3), some (vI l4), some (vI l5), some (vI s0), g7, g8], [], σ) else (59, [some (vR 42), some (vR 2), some (vR 7), some (vI l3), some (vI l4), some (vI l5), some (vI s0), g7, g8], [], σ))) rfl ?_
    refine run_ite hf (fun _ hf => ?_) (fun _ hf => ?_)
    · refine run_seg (k := 1) (s' := (64, [some (vR 42), some (vR 2), some (vR 7), some (vI l3), some (vI l4), some (vI l5), some (vI s0), g7, g8], [vI 0], σ)) rfl ?_
      exact r_Sentence_readOne_64 hd hq_Sentence_readAll hq_Sentence_readCondition hq_Sentence_readOne hf
    · exact r_Sentence_readOne_59 hd hq_Sentence_readAll hq_Sentence_readCondition hq_Sentence_readOne hf
  · exact r_Sentence_readOne_59 hd hq_Sentence_readAll hq_Sentence_readCondition hq_Sentence_readOne hf
theorem r_Sentence_readOne_34 {d : Nat} (hd : 3 ≤ d) {q_Sentence_readAll : (Int → xSt → Option (Int × xSt))} (hq_Sentence_readAll : ∀ {p3 : Int} {σ : xSt} {r : Int × xSt}, q_Sentence_readAll p3 σ = some r → Call d 64 [vR 42, vR 2, vR 7, vI p3] σ (tIW r).1 (tIW r).2) {q_Sentence_readCondition : (Int → xSt → Option (Int × xSt))} (hq_Sentence_readCondition : ∀ {p3 : Int} {σ : xSt} {r : Int × xSt}, q_Sentence_readCondition p3 σ = some r → Call d 63 [vR 42, vR 2, vR 7, vI p3] σ (tIW r).1 (tIW r).2) {q_Sentence_readOne : (Int → xSt → Option (Int × xSt))} (hq_Sentence_readOne : ∀ {p3 : Int} {σ : xSt} {r : Int × xSt}, q_Sentence_readOne p3 σ = some r → Call d 65 [vR 42, vR 2, vR 7, vI p3] σ (tIW r).1 (tIW r).2) {l3 : Int} {l4 : Int} {l5 : Int} {g6 : Option xV} {g7 : Option xV} {g8 : Option xV} {σ : xSt} {r : Int × xSt} (hf : f_Sentence_readOne_34 q_Sentence_readAll q_Sentence_readCondition q_Sentence_readOne l3 l4 l5 σ = some r) : Run d 5 2 kX5_readOne (34, [some (vR 42), some (vR 2), some (vR 7), some (vI l3), some (vI l4), some (vI l5), g6, g7, g8], [], σ) (tIW r) := by
  unfold f_Sentence_readOne_34 at hf
  refine run_seg (k := 2) (s' := (39, [some (vR 42), some (vR 2), some (vR 7), some (vI l3), some (vI l4), some (vI l5), g6, g7, g8], [vI 1], σ)) rfl ?_
  exact r_Sentence_readOne_39 hd hq_Sentence_readAll hq_Sentence_readCondition hq_Sentence_readOne hf
theorem c0_Sentence_readOne {d : Nat} (hd : 3 ≤ d) {q_Sentence_readAll : (Int → xSt → Option (Int × xSt))} (hq_Sentence_readAll : ∀ {p3 : Int} {σ : xSt} {r : Int × xSt}, q_Sentence_readAll p3 σ = some r → Call d 64 [vR 42, vR 2, vR 7, vI p3] σ (tIW r).1 (tIW r).2) {q_Sentence_readCondition : (Int → xSt → Option (Int × xSt))} (hq_Sentence_readCondition : ∀ {p3 : Int} {σ : xSt} {r : Int × xSt}, q_Sentence_readCondition p3 σ = some r → Call d 63 [vR 42, vR 2, vR 7, vI p3] σ (tIW r).1 (tIW r).2) {q_Sentence_readOne : (Int → xSt → Option (Int × xSt))} (hq_Sentence_readOne : ∀ {p3 : Int} {σ : xSt} {r : Int × xSt}, q_Sentence_readOne p3 σ = some r → Call d 65 [vR 42, vR 2, vR 7, vI p3] σ (tIW r).1 (tIW r).2) {p3 : Int} {σ : xSt} {r : Int × xSt} (hf : f0_Sentence_readOne q_Sentence_readAll q_Sentence_readCondition q_Sentence_readOne p3 σ = some r) : Call (d + 1) 65 [vR 42, vR 2, vR 7, vI p3] σ (tIW r).1 (tIW r).2 := by
  unfold f0_Sentence_readOne at hf
  refine call_of (own := 5) (rk := 2) (cd := kX5_readOne) (ls := [some (vR 42), some (vR 2), some (vR 7), some (vI p3), none, none, none, none, none]) (rT := tIW) rfl rfl rfl rfl rfl ?_
  refine run_seg (k := 2) (s' := (3, [some (vR 42), some (vR 2), some (vR 7), some (vI p3), none, none, none, none, none], [vR 144, vR 2], σ)) rfl ?_
  refine run_callN (w := fun a => some (vI a)) (m := 117) (as := [vR 2, vR 144]) (pc := 6) (ls := [some (vR 42), some (vR 2), some (vR 7), some (vI p3), none, none, none, none, none]) (st' := []) (σ := σ) hf rfl (fun _ h => (c_Tokens_is_144 h).mono (Nat.le_trans (by decide) hd)) (fun r1 hf => ?_)
  refine run_seg (k := 3) (s' := (11, [some (vR 42), some (vR 2), some (vR 7), some (vI p3), some (vI r1), none, none, none, none], [vI 40, vR 2], σ)) rfl ?_
  refine run_callN (w := fun a => some (vI a)) (m := 120) (as := [vR 2, vI 40]) (pc := 14) (ls := [some (vR 42), some (vR 2), some (vR 7), some (vI p3), some (vI r1), none, none, none, none]) (st' := []) (σ := σ) hf rfl (fun _ h => (c_Tokens_isSigned h).mono (Nat.le_trans (by decide) hd)) (fun r2 hf => ?_)
  refine run_seg (k := 3) (s' := (19, [some (vR 42), some (vR 2), some (vR 7), some (vI p3), some (vI r1), some (vI r2), none, none, none], [vR 145, vR 2], σ)) rfl ?_
  refine run_callN (w := fun a => some (vI a)) (m := 117) (as := [vR 2, vR 145]) (pc := 22) (ls := [some (vR 42), some (vR 2), some (vR 7), some (vI p3), some (vI r1), some (vI r2), none, none, none]) (st' := []) (σ := σ) hf rfl (fun _ h => (c_Tokens_is_145 h).mono (Nat.le_trans (by decide) hd)) (fun r3 hf => ?_)
  refine run_seg (k := 1) (s' := (if r3 = 0 then (25, [some (vR 42), some (vR 2), some (vR 7), some (vI p3), some (vI r1), some (vI r2), none, none, none], [], σ) else (34, [some (vR 42), some (vR 2), some (vR 7), some (vI p3), some (vI r1), some (vI r2), none, none, none], [], σ))) rfl ?_
  refine run_ite hf (fun _ hf => ?_) (fun _ hf => ?_)
  · refine run_seg (k := 2) (s' := (28, [some (vR 42), some (vR 2), some (vR 7), some (vI p3), some (vI r1), some (vI r2), none, none, none], [vR 146, vR 2], σ)) rfl ?_
    refine run_callN (w := fun a => some (vI a)) (m := 117) (as := [vR 2, vR 146]) (pc := 31) (ls := [some (vR 42), some (vR 2), some (vR 7), some (vI p3), some (vI r1), some (vI r2), none, none, none]) (st' := []) (σ := σ) hf rfl (fun _ h => (c_Tokens_is_146 h).mono (Nat.le_trans (by decide) hd)) (fun r4 hf => ?_)
    refine run_seg (k := 1) (s' := (if r4 = 0 then (38, [some (vR 42), some (vR 2), some (vR 7), some (vI p3), some (vI r1), some (vI r2), none, none, none], [], σ) else (34, [some (vR 42), some (vR 2), some (vR 7), some (vI p3), some (vI r1), some (vI r2), none, none, none], [], σ))) rfl ?_
    refine run_ite hf (fun _ hf => ?_) (fun _ hf => ?_)
    · refine run_seg (k := 1) (s' := (39, [some (vR 42), some (vR 2), some (vR 7), some (vI p3), some (vI r1), some (vI r2), none, none, none], [vI 0], σ)) rfl ?_
      exact r_Sentence_readOne_39 hd hq_Sentence_readAll hq_Sentence_readCondition hq_Sentence_readOne hf
    · exact r_Sentence_readOne_34 hd hq_Sentence_readAll hq_Sentence_readCondition hq_Sentence_readOne hf
  · exact r_Sentence_readOne_34 hd hq_Sentence_readAll hq_Sentence_readCondition hq_Sentence_readOne hf
def g_Sentence_readAll : Nat → (Int → xSt → Option (Int × xSt)) × (Int → xSt → Option (Int × xSt)) × (Int → xSt → Option (Int × xSt))
  | 0 => ((fun _ _ => none), (fun _ _ => none), (fun _ _ => none))
  | n + 1 => ((fun p3 σ => f0_Sentence_readAll ((g_Sentence_readAll n).1) ((g_Sentence_readAll n).2.1) ((g_Sentence_readAll n).2.2) p3 σ), (fun p3 σ => f0_Sentence_readCondition ((g_Sentence_readAll n).1) ((g_Sentence_readAll n).2.1) ((g_Sentence_readAll n).2.2) p3 σ), (fun p3 σ => f0_Sentence_readOne ((g_Sentence_readAll n).1) ((g_Sentence_readAll n).2.1) ((g_Sentence_readAll n).2.2) p3 σ))
def f_Sentence_readAll (n : Nat) (p3 : Int) (σ : xSt) : Option (Int × xSt) := (g_Sentence_readAll n).1 p3 σ
def f_Sentence_readCondition (n : Nat) (p3 : Int) (σ : xSt) : Option (Int × xSt) := (g_Sentence_readAll n).2.1 p3 σ
def f_Sentence_readOne (n : Nat) (p3 : Int) (σ : xSt) : Option (Int × xSt) := (g_Sentence_readAll n).2.2 p3 σ
theorem hg_Sentence_readAll : ∀ n, (∀ {p3 : Int} {σ : xSt} {r : Int × xSt}, f_Sentence_readAll n p3 σ = some r → Call (3 + n) 64 [vR 42, vR 2, vR 7, vI p3] σ (tIW r).1 (tIW r).2) ∧ (∀ {p3 : Int} {σ : xSt} {r : Int × xSt}, f_Sentence_readCondition n p3 σ = some r → Call (3 + n) 63 [vR 42, vR 2, vR 7, vI p3] σ (tIW r).1 (tIW r).2) ∧ (∀ {p3 : Int} {σ : xSt} {r : Int × xSt}, f_Sentence_readOne n p3 σ = some r → Call (3 + n) 65 [vR 42, vR 2, vR 7, vI p3] σ (tIW r).1 (tIW r).2) := by
  intro n
  induction n with
  | zero => exact ⟨(fun h => nomatch (show (none : Option (Int × xSt)) = some _ from h)), (fun h => nomatch (show (none : Option (Int × xSt)) = some _ from h)), (fun h => nomatch (show (none : Option (Int × xSt)) = some _ from h))⟩
  | succ n ih =>
    obtain ⟨i0, i1, i2⟩ := ih
    exact ⟨(fun h => c0_Sentence_readAll (Nat.le_add_right 3 n) (fun h => i0 h) (fun h => i1 h) (fun h => i2 h) h), (fun h => c0_Sentence_readCondition (Nat.le_add_right 3 n) (fun h => i0 h) (fun h => i1 h) (fun h => i2 h) h), (fun h => c0_Sentence_readOne (Nat.le_add_right 3 n) (fun h => i0 h) (fun h => i1 h) (fun h => i2 h) h)⟩
theorem c_Sentence_readAll {p3 : Int} {σ : xSt} {r : Int × xSt} (hf : f_Sentence_readAll 60 p3 σ = some r) : Call 63 64 [vR 42, vR 2, vR 7, vI p3] σ (tIW r).1 (tIW r).2 := ((hg_Sentence_readAll 60).1) hf
theorem c_Sentence_readCondition {p3 : Int} {σ : xSt} {r : Int × xSt} (hf : f_Sentence_readCondition 60 p3 σ = some r) : Call 63 63 [vR 42, vR 2, vR 7, vI p3] σ (tIW r).1 (tIW r).2 := ((hg_Sentence_readAll 60).2.1) hf
theorem c_Sentence_readOne {p3 : Int} {σ : xSt} {r : Int × xSt} (hf : f_Sentence_readOne 60 p3 σ = some r) : Call 63 65 [vR 42, vR 2, vR 7, vI p3] σ (tIW r).1 (tIW r).2 := ((hg_Sentence_readAll 60).2.2) hf
/-- BentPenny$Sentence.read(LBentPenny$Tokens;LBentPenny$Table;)Z -/
def f_Sentence_read (σ : xSt) : Option (Int × xSt) :=
  xbR (f_Sentence_clear 42 σ) fun σ1 =>
  xbW (f_Sentence_readCondition 60 1 σ1) fun r2 σ3 =>
  if r2 = 0 then (some (0, σ3))
  else (xbW (f_Tokens_isDone σ3) fun r4 σ5 =>
  if r4 = 0 then (some (0, σ5))
  else (some (1, σ5)))
theorem c_Sentence_read {σ : xSt} {r : Int × xSt} (hf : f_Sentence_read σ = some r) : Call (63 + 1) 62 [vR 42, vR 2, vR 7] σ (tIW r).1 (tIW r).2 := by
  unfold f_Sentence_read at hf
  refine call_of (own := 5) (rk := 2) (cd := kX5_read) (ls := [some (vR 42), some (vR 2), some (vR 7)]) (rT := tIW) rfl rfl rfl rfl rfl ?_
  refine run_seg (k := 1) (s' := (1, [some (vR 42), some (vR 2), some (vR 7)], [vR 42], σ)) rfl ?_
  refine run_callV (m := 58) (as := [vR 42]) (pc := 4) (ls := [some (vR 42), some (vR 2), some (vR 7)]) (st' := []) (σ := σ) hf rfl (fun _ h => (c_Sentence_clear_42 h).mono (by decide)) (fun σ1 hf => ?_)
  refine run_seg (k := 4) (s' := (8, [some (vR 42), some (vR 2), some (vR 7)], [vI 1, vR 7, vR 2, vR 42], σ1)) rfl ?_
  refine run_callW (w := fun a => some (vI a)) (m := 63) (as := [vR 42, vR 2, vR 7, vI 1]) (pc := 11) (ls := [some (vR 42), some (vR 2), some (vR 7)]) (st' := []) (σ := σ1) hf rfl (fun _ _ h => (c_Sentence_readCondition h).mono (by decide)) (fun r2 σ3 hf => ?_)
  refine run_seg (k := 1) (s' := (if r2 = 0 then (25, [some (vR 42), some (vR 2), some (vR 7)], [], σ3) else (14, [some (vR 42), some (vR 2), some (vR 7)], [], σ3))) rfl ?_
  refine run_ite hf (fun _ hf => ?_) (fun _ hf => ?_)
  · refine run_seg (k := 1) (s' := (26, [some (vR 42), some (vR 2), some (vR 7)], [vI 0], σ3)) rfl ?_
    exact run_ret hf rfl
  · refine run_seg (k := 1) (s' := (15, [some (vR 42), some (vR 2), some (vR 7)], [vR 2], σ3)) rfl ?_
    refine run_callW (w := fun a => some (vI a)) (m := 125) (as := [vR 2]) (pc := 18) (ls := [some (vR 42), some (vR 2), some (vR 7)]) (st' := []) (σ := σ3) hf rfl (fun _ _ h => (c_Tokens_isDone h).mono (by decide)) (fun r4 σ5 hf => ?_)
    refine run_seg (k := 1) (s' := (if r4 = 0 then (25, [some (vR 42), some (vR 2), some (vR 7)], [], σ5) else (21, [some (vR 42), some (vR 2), some (vR 7)], [], σ5))) rfl ?_
    refine run_ite hf (fun _ hf => ?_) (fun _ hf => ?_)
    · refine run_seg (k := 1) (s' := (26, [some (vR 42), some (vR 2), some (vR 7)], [vI 0], σ5)) rfl ?_
      exact run_ret hf rfl
    · refine run_seg (k := 2) (s' := (26, [some (vR 42), some (vR 2), some (vR 7)], [vI 1], σ5)) rfl ?_
      exact run_ret hf rfl
def f_Sentence_copyFrom_18 (a0 : Nat) (a1 : Nat) : Nat → Int → xSt → Option (xSt)
  | 0, _, _ => none
  | n + 1, l2, σ =>
    if l2 < 40 then (if 0 ≤ l2 ∧ l2 < 40 then (
    if 0 ≤ l2 ∧ l2 < 40 then (
    xlet (upS σ (a0 + 1) l2.toNat (σ (a1 + 1) l2.toNat)) fun σ3 =>
    if 0 ≤ l2 ∧ l2 < 40 then (
    if 0 ≤ l2 ∧ l2 < 40 then (
    xlet (upS σ3 (a0 + 2) l2.toNat (σ3 (a1 + 2) l2.toNat)) fun σ4 =>
    if 0 ≤ l2 ∧ l2 < 40 then (
    if 0 ≤ l2 ∧ l2 < 40 then (
    xlet (upS σ4 (a0 + 3) l2.toNat (σ4 (a1 + 3) l2.toNat)) fun σ5 =>
    xlet (w32 (l2 + 1)) fun x6 =>
    f_Sentence_copyFrom_18 a0 a1 n x6 σ5) else none) else none) else none) else none) else none) else none)
    else (some σ)
/-- BentPenny$Sentence.copyFrom(LBentPenny$Sentence;)V -/
def f_Sentence_copyFrom (a0 : Nat) (a1 : Nat) (σ : xSt) : Option (xSt) :=
  xlet (upS σ a0 0 (σ a1 0)) fun σ1 =>
  xlet (upS σ1 a0 1 (σ1 a1 1)) fun σ2 =>
  f_Sentence_copyFrom_18 a0 a1 1000000 0 σ2
theorem r_Sentence_copyFrom_18_22_42 : ∀ (n : Nat) {l2 : Int} {σ : xSt} {r : xSt}, f_Sentence_copyFrom_18 22 42 n l2 σ = some r → Run 0 5 0 kX5_copyFrom (18, [some (vR 22), some (vR 42), some (vI l2)], [], σ) (tV r) := by
  intro n
  induction n with
  | zero =>
    intro _ _ _ h
    exact nomatch (show (none : Option (xSt)) = some _ from h)
  | succ n ih =>
    intro l2 σ r hf
    unfold f_Sentence_copyFrom_18 at hf
    refine run_seg (k := 3) (s' := (if l2 < 40 then (24, [some (vR 22), some (vR 42), some (vI l2)], [], σ) else (66, [some (vR 22), some (vR 42), some (vI l2)], [], σ))) rfl ?_
    refine run_ite hf (fun _ hf => ?_) (fun _ hf => ?_)
    · refine run_seg (k := 6) (s' := (34, [some (vR 22), some (vR 42), some (vI l2)], [vI l2, vR 43, vI l2, vR 23], σ)) rfl ?_
      refine run_guard (s' := (35, [some (vR 22), some (vR 42), some (vI l2)], [vI (σ 43 l2.toNat), vI l2, vR 23], σ)) hf rfl (fun hf => ?_)
      refine run_guard (s' := (36, [some (vR 22), some (vR 42), some (vI l2)], [], upS σ 23 l2.toNat (σ 43 l2.toNat))) hf rfl (fun hf => ?_)
      refine run_let (fun σ3 => (36, [some (vR 22), some (vR 42), some (vI l2)], [], σ3)) hf (fun σ3 hf => ?_)
      refine run_seg (k := 6) (s' := (46, [some (vR 22), some (vR 42), some (vI l2)], [vI l2, vR 44, vI l2, vR 24], σ3)) rfl ?_
      refine run_guard (s' := (47, [some (vR 22), some (vR 42), some (vI l2)], [vI (σ3 44 l2.toNat), vI l2, vR 24], σ3)) hf rfl (fun hf => ?_)
      refine run_guard (s' := (48, [some (vR 22), some (vR 42), some (vI l2)], [], upS σ3 24 l2.toNat (σ3 44 l2.toNat))) hf rfl (fun hf => ?_)
      refine run_let (fun σ4 => (48, [some (vR 22), some (vR 42), some (vI l2)], [], σ4)) hf (fun σ4 hf => ?_)
      refine run_seg (k := 6) (s' := (58, [some (vR 22), some (vR 42), some (vI l2)], [vI l2, vR 45, vI l2, vR 25], σ4)) rfl ?_
      refine run_guard (s' := (59, [some (vR 22), some (vR 42), some (vI l2)], [vI (σ4 45 l2.toNat), vI l2, vR 25], σ4)) hf rfl (fun hf => ?_)
      refine run_guard (s' := (60, [some (vR 22), some (vR 42), some (vI l2)], [], upS σ4 25 l2.toNat (σ4 45 l2.toNat))) hf rfl (fun hf => ?_)
      refine run_let (fun σ5 => (60, [some (vR 22), some (vR 42), some (vI l2)], [], σ5)) hf (fun σ5 hf => ?_)
      refine run_seg (k := 1) (s' := (63, [some (vR 22), some (vR 42), some (vI (w32 (l2 + 1)))], [], σ5)) rfl ?_
      refine run_let (fun x6 => (63, [some (vR 22), some (vR 42), some (vI x6)], [], σ5)) hf (fun x6 hf => ?_)
      refine run_seg (k := 1) (s' := (18, [some (vR 22), some (vR 42), some (vI x6)], [], σ5)) rfl ?_
      exact ih hf
    · exact run_ret hf rfl
theorem c_Sentence_copyFrom_22_42 {σ : xSt} {r : xSt} (hf : f_Sentence_copyFrom 22 42 σ = some r) : Call (0 + 1) 59 [vR 22, vR 42] σ (tV r).1 (tV r).2 := by
  unfold f_Sentence_copyFrom at hf
  refine call_of (own := 5) (rk := 0) (cd := kX5_copyFrom) (ls := [some (vR 22), some (vR 42), none]) (rT := tV) rfl rfl rfl rfl rfl ?_
  refine run_seg (k := 4) (s' := (8, [some (vR 22), some (vR 42), none], [], upS σ 22 0 (σ 42 0))) rfl ?_
  refine run_let (fun σ1 => (8, [some (vR 22), some (vR 42), none], [], σ1)) hf (fun σ1 hf => ?_)
  refine run_seg (k := 4) (s' := (16, [some (vR 22), some (vR 42), none], [], upS σ1 22 1 (σ1 42 1))) rfl ?_
  refine run_let (fun σ2 => (16, [some (vR 22), some (vR 42), none], [], σ2)) hf (fun σ2 hf => ?_)
  refine run_seg (k := 2) (s' := (18, [some (vR 22), some (vR 42), some (vI 0)], [], σ2)) rfl ?_
  exact r_Sentence_copyFrom_18_22_42 1000000 hf
theorem r_Sentence_copyFrom_18_22_63 : ∀ (n : Nat) {l2 : Int} {σ : xSt} {r : xSt}, f_Sentence_copyFrom_18 22 63 n l2 σ = some r → Run 0 5 0 kX5_copyFrom (18, [some (vR 22), some (vR 63), some (vI l2)], [], σ) (tV r) := by
  intro n
  induction n with
  | zero =>
    intro _ _ _ h
    exact nomatch (show (none : Option (xSt)) = some _ from h)
  | succ n ih =>
    intro l2 σ r hf
    unfold f_Sentence_copyFrom_18 at hf
    refine run_seg (k := 3) (s' := (if l2 < 40 then (24, [some (vR 22), some (vR 63), some (vI l2)], [], σ) else (66, [some (vR 22), some (vR 63), some (vI l2)], [], σ))) rfl ?_
    refine run_ite hf (fun _ hf => ?_) (fun _ hf => ?_)
    · refine run_seg (k := 6) (s' := (34, [some (vR 22), some (vR 63), some (vI l2)], [vI l2, vR 64, vI l2, vR 23], σ)) rfl ?_
      refine run_guard (s' := (35, [some (vR 22), some (vR 63), some (vI l2)], [vI (σ 64 l2.toNat), vI l2, vR 23], σ)) hf rfl (fun hf => ?_)
      refine run_guard (s' := (36, [some (vR 22), some (vR 63), some (vI l2)], [], upS σ 23 l2.toNat (σ 64 l2.toNat))) hf rfl (fun hf => ?_)
      refine run_let (fun σ3 => (36, [some (vR 22), some (vR 63), some (vI l2)], [], σ3)) hf (fun σ3 hf => ?_)
      refine run_seg (k := 6) (s' := (46, [some (vR 22), some (vR 63), some (vI l2)], [vI l2, vR 65, vI l2, vR 24], σ3)) rfl ?_
      refine run_guard (s' := (47, [some (vR 22), some (vR 63), some (vI l2)], [vI (σ3 65 l2.toNat), vI l2, vR 24], σ3)) hf rfl (fun hf => ?_)
      refine run_guard (s' := (48, [some (vR 22), some (vR 63), some (vI l2)], [], upS σ3 24 l2.toNat (σ3 65 l2.toNat))) hf rfl (fun hf => ?_)
      refine run_let (fun σ4 => (48, [some (vR 22), some (vR 63), some (vI l2)], [], σ4)) hf (fun σ4 hf => ?_)
      refine run_seg (k := 6) (s' := (58, [some (vR 22), some (vR 63), some (vI l2)], [vI l2, vR 66, vI l2, vR 25], σ4)) rfl ?_
      refine run_guard (s' := (59, [some (vR 22), some (vR 63), some (vI l2)], [vI (σ4 66 l2.toNat), vI l2, vR 25], σ4)) hf rfl (fun hf => ?_)
      refine run_guard (s' := (60, [some (vR 22), some (vR 63), some (vI l2)], [], upS σ4 25 l2.toNat (σ4 66 l2.toNat))) hf rfl (fun hf => ?_)
      refine run_let (fun σ5 => (60, [some (vR 22), some (vR 63), some (vI l2)], [], σ5)) hf (fun σ5 hf => ?_)
      refine run_seg (k := 1) (s' := (63, [some (vR 22), some (vR 63), some (vI (w32 (l2 + 1)))], [], σ5)) rfl ?_
      refine run_let (fun x6 => (63, [some (vR 22), some (vR 63), some (vI x6)], [], σ5)) hf (fun x6 hf => ?_)
      refine run_seg (k := 1) (s' := (18, [some (vR 22), some (vR 63), some (vI x6)], [], σ5)) rfl ?_
      exact ih hf
    · exact run_ret hf rfl
theorem c_Sentence_copyFrom_22_63 {σ : xSt} {r : xSt} (hf : f_Sentence_copyFrom 22 63 σ = some r) : Call (0 + 1) 59 [vR 22, vR 63] σ (tV r).1 (tV r).2 := by
  unfold f_Sentence_copyFrom at hf
  refine call_of (own := 5) (rk := 0) (cd := kX5_copyFrom) (ls := [some (vR 22), some (vR 63), none]) (rT := tV) rfl rfl rfl rfl rfl ?_
  refine run_seg (k := 4) (s' := (8, [some (vR 22), some (vR 63), none], [], upS σ 22 0 (σ 63 0))) rfl ?_
  refine run_let (fun σ1 => (8, [some (vR 22), some (vR 63), none], [], σ1)) hf (fun σ1 hf => ?_)
  refine run_seg (k := 4) (s' := (16, [some (vR 22), some (vR 63), none], [], upS σ1 22 1 (σ1 63 1))) rfl ?_
  refine run_let (fun σ2 => (16, [some (vR 22), some (vR 63), none], [], σ2)) hf (fun σ2 hf => ?_)
  refine run_seg (k := 2) (s' := (18, [some (vR 22), some (vR 63), some (vI 0)], [], σ2)) rfl ?_
  exact r_Sentence_copyFrom_18_22_63 1000000 hf
theorem r_Sentence_copyFrom_18_22_83 : ∀ (n : Nat) {l2 : Int} {σ : xSt} {r : xSt}, f_Sentence_copyFrom_18 22 83 n l2 σ = some r → Run 0 5 0 kX5_copyFrom (18, [some (vR 22), some (vR 83), some (vI l2)], [], σ) (tV r) := by
  intro n
  induction n with
  | zero =>
    intro _ _ _ h
    exact nomatch (show (none : Option (xSt)) = some _ from h)
  | succ n ih =>
    intro l2 σ r hf
    unfold f_Sentence_copyFrom_18 at hf
    refine run_seg (k := 3) (s' := (if l2 < 40 then (24, [some (vR 22), some (vR 83), some (vI l2)], [], σ) else (66, [some (vR 22), some (vR 83), some (vI l2)], [], σ))) rfl ?_
    refine run_ite hf (fun _ hf => ?_) (fun _ hf => ?_)
    · refine run_seg (k := 6) (s' := (34, [some (vR 22), some (vR 83), some (vI l2)], [vI l2, vR 84, vI l2, vR 23], σ)) rfl ?_
      refine run_guard (s' := (35, [some (vR 22), some (vR 83), some (vI l2)], [vI (σ 84 l2.toNat), vI l2, vR 23], σ)) hf rfl (fun hf => ?_)
      refine run_guard (s' := (36, [some (vR 22), some (vR 83), some (vI l2)], [], upS σ 23 l2.toNat (σ 84 l2.toNat))) hf rfl (fun hf => ?_)
      refine run_let (fun σ3 => (36, [some (vR 22), some (vR 83), some (vI l2)], [], σ3)) hf (fun σ3 hf => ?_)
      refine run_seg (k := 6) (s' := (46, [some (vR 22), some (vR 83), some (vI l2)], [vI l2, vR 85, vI l2, vR 24], σ3)) rfl ?_
      refine run_guard (s' := (47, [some (vR 22), some (vR 83), some (vI l2)], [vI (σ3 85 l2.toNat), vI l2, vR 24], σ3)) hf rfl (fun hf => ?_)
      refine run_guard (s' := (48, [some (vR 22), some (vR 83), some (vI l2)], [], upS σ3 24 l2.toNat (σ3 85 l2.toNat))) hf rfl (fun hf => ?_)
      refine run_let (fun σ4 => (48, [some (vR 22), some (vR 83), some (vI l2)], [], σ4)) hf (fun σ4 hf => ?_)
      refine run_seg (k := 6) (s' := (58, [some (vR 22), some (vR 83), some (vI l2)], [vI l2, vR 86, vI l2, vR 25], σ4)) rfl ?_
      refine run_guard (s' := (59, [some (vR 22), some (vR 83), some (vI l2)], [vI (σ4 86 l2.toNat), vI l2, vR 25], σ4)) hf rfl (fun hf => ?_)
      refine run_guard (s' := (60, [some (vR 22), some (vR 83), some (vI l2)], [], upS σ4 25 l2.toNat (σ4 86 l2.toNat))) hf rfl (fun hf => ?_)
      refine run_let (fun σ5 => (60, [some (vR 22), some (vR 83), some (vI l2)], [], σ5)) hf (fun σ5 hf => ?_)
      refine run_seg (k := 1) (s' := (63, [some (vR 22), some (vR 83), some (vI (w32 (l2 + 1)))], [], σ5)) rfl ?_
      refine run_let (fun x6 => (63, [some (vR 22), some (vR 83), some (vI x6)], [], σ5)) hf (fun x6 hf => ?_)
      refine run_seg (k := 1) (s' := (18, [some (vR 22), some (vR 83), some (vI x6)], [], σ5)) rfl ?_
      exact ih hf
    · exact run_ret hf rfl
theorem c_Sentence_copyFrom_22_83 {σ : xSt} {r : xSt} (hf : f_Sentence_copyFrom 22 83 σ = some r) : Call (0 + 1) 59 [vR 22, vR 83] σ (tV r).1 (tV r).2 := by
  unfold f_Sentence_copyFrom at hf
  refine call_of (own := 5) (rk := 0) (cd := kX5_copyFrom) (ls := [some (vR 22), some (vR 83), none]) (rT := tV) rfl rfl rfl rfl rfl ?_
  refine run_seg (k := 4) (s' := (8, [some (vR 22), some (vR 83), none], [], upS σ 22 0 (σ 83 0))) rfl ?_
  refine run_let (fun σ1 => (8, [some (vR 22), some (vR 83), none], [], σ1)) hf (fun σ1 hf => ?_)
  refine run_seg (k := 4) (s' := (16, [some (vR 22), some (vR 83), none], [], upS σ1 22 1 (σ1 83 1))) rfl ?_
  refine run_let (fun σ2 => (16, [some (vR 22), some (vR 83), none], [], σ2)) hf (fun σ2 hf => ?_)
  refine run_seg (k := 2) (s' := (18, [some (vR 22), some (vR 83), some (vI 0)], [], σ2)) rfl ?_
  exact r_Sentence_copyFrom_18_22_83 1000000 hf
theorem r_Sentence_copyFrom_18_63_22 : ∀ (n : Nat) {l2 : Int} {σ : xSt} {r : xSt}, f_Sentence_copyFrom_18 63 22 n l2 σ = some r → Run 0 5 0 kX5_copyFrom (18, [some (vR 63), some (vR 22), some (vI l2)], [], σ) (tV r) := by
  intro n
  induction n with
  | zero =>
    intro _ _ _ h
    exact nomatch (show (none : Option (xSt)) = some _ from h)
  | succ n ih =>
    intro l2 σ r hf
    unfold f_Sentence_copyFrom_18 at hf
    refine run_seg (k := 3) (s' := (if l2 < 40 then (24, [some (vR 63), some (vR 22), some (vI l2)], [], σ) else (66, [some (vR 63), some (vR 22), some (vI l2)], [], σ))) rfl ?_
    refine run_ite hf (fun _ hf => ?_) (fun _ hf => ?_)
    · refine run_seg (k := 6) (s' := (34, [some (vR 63), some (vR 22), some (vI l2)], [vI l2, vR 23, vI l2, vR 64], σ)) rfl ?_
      refine run_guard (s' := (35, [some (vR 63), some (vR 22), some (vI l2)], [vI (σ 23 l2.toNat), vI l2, vR 64], σ)) hf rfl (fun hf => ?_)
      refine run_guard (s' := (36, [some (vR 63), some (vR 22), some (vI l2)], [], upS σ 64 l2.toNat (σ 23 l2.toNat))) hf rfl (fun hf => ?_)
      refine run_let (fun σ3 => (36, [some (vR 63), some (vR 22), some (vI l2)], [], σ3)) hf (fun σ3 hf => ?_)
      refine run_seg (k := 6) (s' := (46, [some (vR 63), some (vR 22), some (vI l2)], [vI l2, vR 24, vI l2, vR 65], σ3)) rfl ?_
      refine run_guard (s' := (47, [some (vR 63), some (vR 22), some (vI l2)], [vI (σ3 24 l2.toNat), vI l2, vR 65], σ3)) hf rfl (fun hf => ?_)
      refine run_guard (s' := (48, [some (vR 63), some (vR 22), some (vI l2)], [], upS σ3 65 l2.toNat (σ3 24 l2.toNat))) hf rfl (fun hf => ?_)
      refine run_let (fun σ4 => (48, [some (vR 63), some (vR 22), some (vI l2)], [], σ4)) hf (fun σ4 hf => ?_)
      refine run_seg (k := 6) (s' := (58, [some (vR 63), some (vR 22), some (vI l2)], [vI l2, vR 25, vI l2, vR 66], σ4)) rfl ?_
      refine run_guard (s' := (59, [some (vR 63), some (vR 22), some (vI l2)], [vI (σ4 25 l2.toNat), vI l2, vR 66], σ4)) hf rfl (fun hf => ?_)
      refine run_guard (s' := (60, [some (vR 63), some (vR 22), some (vI l2)], [], upS σ4 66 l2.toNat (σ4 25 l2.toNat))) hf rfl (fun hf => ?_)
      refine run_let (fun σ5 => (60, [some (vR 63), some (vR 22), some (vI l2)], [], σ5)) hf (fun σ5 hf => ?_)
      refine run_seg (k := 1) (s' := (63, [some (vR 63), some (vR 22), some (vI (w32 (l2 + 1)))], [], σ5)) rfl ?_
      refine run_let (fun x6 => (63, [some (vR 63), some (vR 22), some (vI x6)], [], σ5)) hf (fun x6 hf => ?_)
      refine run_seg (k := 1) (s' := (18, [some (vR 63), some (vR 22), some (vI x6)], [], σ5)) rfl ?_
      exact ih hf
    · exact run_ret hf rfl
theorem c_Sentence_copyFrom_63_22 {σ : xSt} {r : xSt} (hf : f_Sentence_copyFrom 63 22 σ = some r) : Call (0 + 1) 59 [vR 63, vR 22] σ (tV r).1 (tV r).2 := by
  unfold f_Sentence_copyFrom at hf
  refine call_of (own := 5) (rk := 0) (cd := kX5_copyFrom) (ls := [some (vR 63), some (vR 22), none]) (rT := tV) rfl rfl rfl rfl rfl ?_
  refine run_seg (k := 4) (s' := (8, [some (vR 63), some (vR 22), none], [], upS σ 63 0 (σ 22 0))) rfl ?_
  refine run_let (fun σ1 => (8, [some (vR 63), some (vR 22), none], [], σ1)) hf (fun σ1 hf => ?_)
  refine run_seg (k := 4) (s' := (16, [some (vR 63), some (vR 22), none], [], upS σ1 63 1 (σ1 22 1))) rfl ?_
  refine run_let (fun σ2 => (16, [some (vR 63), some (vR 22), none], [], σ2)) hf (fun σ2 hf => ?_)
  refine run_seg (k := 2) (s' := (18, [some (vR 63), some (vR 22), some (vI 0)], [], σ2)) rfl ?_
  exact r_Sentence_copyFrom_18_63_22 1000000 hf
theorem r_Sentence_copyFrom_18_83_22 : ∀ (n : Nat) {l2 : Int} {σ : xSt} {r : xSt}, f_Sentence_copyFrom_18 83 22 n l2 σ = some r → Run 0 5 0 kX5_copyFrom (18, [some (vR 83), some (vR 22), some (vI l2)], [], σ) (tV r) := by
  intro n
  induction n with
  | zero =>
    intro _ _ _ h
    exact nomatch (show (none : Option (xSt)) = some _ from h)
  | succ n ih =>
    intro l2 σ r hf
    unfold f_Sentence_copyFrom_18 at hf
    refine run_seg (k := 3) (s' := (if l2 < 40 then (24, [some (vR 83), some (vR 22), some (vI l2)], [], σ) else (66, [some (vR 83), some (vR 22), some (vI l2)], [], σ))) rfl ?_
    refine run_ite hf (fun _ hf => ?_) (fun _ hf => ?_)
    · refine run_seg (k := 6) (s' := (34, [some (vR 83), some (vR 22), some (vI l2)], [vI l2, vR 23, vI l2, vR 84], σ)) rfl ?_
      refine run_guard (s' := (35, [some (vR 83), some (vR 22), some (vI l2)], [vI (σ 23 l2.toNat), vI l2, vR 84], σ)) hf rfl (fun hf => ?_)
      refine run_guard (s' := (36, [some (vR 83), some (vR 22), some (vI l2)], [], upS σ 84 l2.toNat (σ 23 l2.toNat))) hf rfl (fun hf => ?_)
      refine run_let (fun σ3 => (36, [some (vR 83), some (vR 22), some (vI l2)], [], σ3)) hf (fun σ3 hf => ?_)
      refine run_seg (k := 6) (s' := (46, [some (vR 83), some (vR 22), some (vI l2)], [vI l2, vR 24, vI l2, vR 85], σ3)) rfl ?_
      refine run_guard (s' := (47, [some (vR 83), some (vR 22), some (vI l2)], [vI (σ3 24 l2.toNat), vI l2, vR 85], σ3)) hf rfl (fun hf => ?_)
      refine run_guard (s' := (48, [some (vR 83), some (vR 22), some (vI l2)], [], upS σ3 85 l2.toNat (σ3 24 l2.toNat))) hf rfl (fun hf => ?_)
      refine run_let (fun σ4 => (48, [some (vR 83), some (vR 22), some (vI l2)], [], σ4)) hf (fun σ4 hf => ?_)
      refine run_seg (k := 6) (s' := (58, [some (vR 83), some (vR 22), some (vI l2)], [vI l2, vR 25, vI l2, vR 86], σ4)) rfl ?_
      refine run_guard (s' := (59, [some (vR 83), some (vR 22), some (vI l2)], [vI (σ4 25 l2.toNat), vI l2, vR 86], σ4)) hf rfl (fun hf => ?_)
      refine run_guard (s' := (60, [some (vR 83), some (vR 22), some (vI l2)], [], upS σ4 86 l2.toNat (σ4 25 l2.toNat))) hf rfl (fun hf => ?_)
      refine run_let (fun σ5 => (60, [some (vR 83), some (vR 22), some (vI l2)], [], σ5)) hf (fun σ5 hf => ?_)
      refine run_seg (k := 1) (s' := (63, [some (vR 83), some (vR 22), some (vI (w32 (l2 + 1)))], [], σ5)) rfl ?_
      refine run_let (fun x6 => (63, [some (vR 83), some (vR 22), some (vI x6)], [], σ5)) hf (fun x6 hf => ?_)
      refine run_seg (k := 1) (s' := (18, [some (vR 83), some (vR 22), some (vI x6)], [], σ5)) rfl ?_
      exact ih hf
    · exact run_ret hf rfl
theorem c_Sentence_copyFrom_83_22 {σ : xSt} {r : xSt} (hf : f_Sentence_copyFrom 83 22 σ = some r) : Call (0 + 1) 59 [vR 83, vR 22] σ (tV r).1 (tV r).2 := by
  unfold f_Sentence_copyFrom at hf
  refine call_of (own := 5) (rk := 0) (cd := kX5_copyFrom) (ls := [some (vR 83), some (vR 22), none]) (rT := tV) rfl rfl rfl rfl rfl ?_
  refine run_seg (k := 4) (s' := (8, [some (vR 83), some (vR 22), none], [], upS σ 83 0 (σ 22 0))) rfl ?_
  refine run_let (fun σ1 => (8, [some (vR 83), some (vR 22), none], [], σ1)) hf (fun σ1 hf => ?_)
  refine run_seg (k := 4) (s' := (16, [some (vR 83), some (vR 22), none], [], upS σ1 83 1 (σ1 22 1))) rfl ?_
  refine run_let (fun σ2 => (16, [some (vR 83), some (vR 22), none], [], σ2)) hf (fun σ2 hf => ?_)
  refine run_seg (k := 2) (s' := (18, [some (vR 83), some (vR 22), some (vI 0)], [], σ2)) rfl ?_
  exact r_Sentence_copyFrom_18_83_22 1000000 hf
/-- BentPenny.sentence()I -/
def f_X_sentence (σ : xSt) : Option (Int × xSt) :=
  xbW (f_X_takeTape σ) fun r1 σ2 =>
  xbR (f_Tokens_begin r1 200 σ2) fun σ3 =>
  xbW (f_Sentence_read σ3) fun r4 σ5 =>
  xlet (upS σ5 0 3 (σ5 2 9)) fun σ6 =>
  if r4 = 0 then (some (w32 ((-1) - (σ6 2 10)), σ6))
  else (xbR (f_Sentence_copyFrom 22 42 σ6) fun σ7 =>
  some (σ7 22 0, σ7))
theorem c_X_sentence {σ : xSt} {r : Int × xSt} (hf : f_X_sentence σ = some r) : Call (64 + 1) 201 [vR 0] σ (tIW r).1 (tIW r).2 := by
  unfold f_X_sentence at hf
  refine call_of (own := 11) (rk := 1) (cd := kX11_sentence) (ls := [some (vR 0), none]) (rT := tIW) rfl rfl rfl rfl rfl ?_
  refine run_seg (k := 3) (s' := (5, [some (vR 0), none], [vR 0, vR 2], σ)) rfl ?_
  refine run_callW (w := fun a => some (vI a)) (m := 152) (as := [vR 0]) (pc := 8) (ls := [some (vR 0), none]) (st' := [vR 2]) (σ := σ) hf rfl (fun _ _ h => (c_X_takeTape h).mono (by decide)) (fun r1 σ2 hf => ?_)
  refine run_seg (k := 1) (s' := (11, [some (vR 0), none], [vI 200, vI r1, vR 2], σ2)) rfl ?_
  refine run_callV (m := 107) (as := [vR 2, vI r1, vI 200]) (pc := 14) (ls := [some (vR 0), none]) (st' := []) (σ := σ2) hf rfl (fun _ h => (c_Tokens_begin h).mono (by decide)) (fun σ3 hf => ?_)
  refine run_seg (k := 8) (s' := (32, [some (vR 0), none], [vR 7, vR 2, vR 42], σ3)) rfl ?_
  refine run_callW (w := fun a => some (vI a)) (m := 62) (as := [vR 42, vR 2, vR 7]) (pc := 35) (ls := [some (vR 0), none]) (st' := []) (σ := σ3) hf rfl (fun _ _ h => (c_Sentence_read h).mono (by decide)) (fun r4 σ5 hf => ?_)
  refine run_seg (k := 6) (s' := (47, [some (vR 0), some (vI r4)], [], upS σ5 0 3 (σ5 2 9))) rfl ?_
  refine run_let (fun σ6 => (47, [some (vR 0), some (vI r4)], [], σ6)) hf (fun σ6 hf => ?_)
  refine run_seg (k := 2) (s' := (if r4 = 0 then (51, [some (vR 0), some (vI r4)], [], σ6) else (61, [some (vR 0), some (vI r4)], [], σ6))) rfl ?_
  refine run_ite hf (fun _ hf => ?_) (fun _ hf => ?_)
  · refine run_seg (k := 5) (s' := (60, [some (vR 0), some (vI r4)], [vI (w32 ((-1) - (σ6 2 10)))], σ6)) rfl ?_
    exact run_ret hf rfl
  · refine run_seg (k := 6) (s' := (75, [some (vR 0), some (vI r4)], [vR 42, vR 22], σ6)) rfl ?_
    refine run_callV (m := 59) (as := [vR 22, vR 42]) (pc := 78) (ls := [some (vR 0), some (vI r4)]) (st' := []) (σ := σ6) hf rfl (fun _ h => (c_Sentence_copyFrom_22_42 h).mono (by decide)) (fun σ7 hf => ?_)
    refine run_seg (k := 4) (s' := (88, [some (vR 0), some (vI r4)], [vI (σ7 22 0)], σ7)) rfl ?_
    exact run_ret hf rfl
/-- BentPenny$Sentence.isTold()Z -/
def f_Sentence_isTold (σ : xSt) : Option (Int) :=
  if 0 < σ 22 0 then (some 1)
  else (some 0)
theorem c_Sentence_isTold {σ : xSt} {r : Int} (hf : f_Sentence_isTold σ = some r) : Call (0 + 1) 60 [vR 22] σ ((tI σ) r).1 ((tI σ) r).2 := by
  unfold f_Sentence_isTold at hf
  refine call_of (own := 5) (rk := 2) (cd := kX5_isTold) (ls := [some (vR 22)]) (rT := (tI σ)) rfl rfl rfl rfl rfl ?_
  refine run_seg (k := 3) (s' := (if 0 < σ 22 0 then (7, [some (vR 22)], [], σ) else (11, [some (vR 22)], [], σ))) rfl ?_
  refine run_ite hf (fun _ hf => ?_) (fun _ hf => ?_)
  · refine run_seg (k := 2) (s' := (12, [some (vR 22)], [vI 1], σ)) rfl ?_
    exact run_ret hf rfl
  · refine run_seg (k := 1) (s' := (12, [some (vR 22)], [vI 0], σ)) rfl ?_
    exact run_ret hf rfl
/-- BentPenny$Sentence.isSized(III)Z -/
def f_Sentence_isSized (p0 : Int) (p1 : Int) (p2 : Int) (σ : xSt) : Option (Int) :=
  if p1 = 60 then (if p0 < p2 then (some 1)
  else (some 0))
  else (if p1 = 61 then (if p0 = p2 then (some 1)
  else (some 0))
  else (if p2 < p0 then (some 1)
  else (some 0)))
theorem c_Sentence_isSized {p0 : Int} {p1 : Int} {p2 : Int} {σ : xSt} {r : Int} (hf : f_Sentence_isSized p0 p1 p2 σ = some r) : Call (0 + 1) 70 [vI p0, vI p1, vI p2] σ ((tI σ) r).1 ((tI σ) r).2 := by
  unfold f_Sentence_isSized at hf
  refine call_of (own := 5) (rk := 2) (cd := kX5_isSized) (ls := [some (vI p0), some (vI p1), some (vI p2)]) (rT := (tI σ)) rfl rfl rfl rfl rfl ?_
  refine run_seg (k := 3) (s' := (if p1 = 60 then (6, [some (vI p0), some (vI p1), some (vI p2)], [], σ) else (17, [some (vI p0), some (vI p1), some (vI p2)], [], σ))) rfl ?_
  refine run_ite hf (fun _ hf => ?_) (fun _ hf => ?_)
  · refine run_seg (k := 3) (s' := (if p0 < p2 then (11, [some (vI p0), some (vI p1), some (vI p2)], [], σ) else (15, [some (vI p0), some (vI p1), some (vI p2)], [], σ))) rfl ?_
    refine run_ite hf (fun _ hf => ?_) (fun _ hf => ?_)
    · refine run_seg (k := 2) (s' := (16, [some (vI p0), some (vI p1), some (vI p2)], [vI 1], σ)) rfl ?_
      exact run_ret hf rfl
    · refine run_seg (k := 1) (s' := (16, [some (vI p0), some (vI p1), some (vI p2)], [vI 0], σ)) rfl ?_
      exact run_ret hf rfl
  · refine run_seg (k := 3) (s' := (if p1 = 61 then (23, [some (vI p0), some (vI p1), some (vI p2)], [], σ) else (36, [some (vI p0), some (vI p1), some (vI p2)], [], σ))) rfl ?_
    refine run_ite hf (fun _ hf => ?_) (fun _ hf => ?_)
    · refine run_seg (k := 3) (s' := (if p0 = p2 then (28, [some (vI p0), some (vI p1), some (vI p2)], [], σ) else (32, [some (vI p0), some (vI p1), some (vI p2)], [], σ))) rfl ?_
      refine run_ite hf (fun _ hf => ?_) (fun _ hf => ?_)
      · refine run_seg (k := 2) (s' := (46, [some (vI p0), some (vI p1), some (vI p2)], [vI 1], σ)) rfl ?_
        exact run_ret hf rfl
      · refine run_seg (k := 2) (s' := (46, [some (vI p0), some (vI p1), some (vI p2)], [vI 0], σ)) rfl ?_
        exact run_ret hf rfl
    · refine run_seg (k := 3) (s' := (if p2 < p0 then (41, [some (vI p0), some (vI p1), some (vI p2)], [], σ) else (45, [some (vI p0), some (vI p1), some (vI p2)], [], σ))) rfl ?_
      refine run_ite hf (fun _ hf => ?_) (fun _ hf => ?_)
      · refine run_seg (k := 2) (s' := (46, [some (vI p0), some (vI p1), some (vI p2)], [vI 1], σ)) rfl ?_
        exact run_ret hf rfl
      · refine run_seg (k := 1) (s' := (46, [some (vI p0), some (vI p1), some (vI p2)], [vI 0], σ)) rfl ?_
        exact run_ret hf rfl
def f_Way_knotsOf_4 : Nat → Int → Int → Int → xSt → Option (Int)
  | 0, _, _, _, _ => none
  | n + 1, l1, l2, l3, σ =>
    if l3 < σ 16 0 then (xbR (f_Way_endAt l3 σ) fun r1 =>
    if r1 = l1 then (xlet (w32 (l2 + 1)) fun x2 =>
    xlet (w32 (l3 + 1)) fun x3 =>
    f_Way_knotsOf_4 n l1 x2 x3 σ)
    else (xlet (w32 (l3 + 1)) fun x4 =>
    f_Way_knotsOf_4 n l1 l2 x4 σ))
    else (some l2)
/-- BentPenny$Way.knotsOf(I)I -/
def f_Way_knotsOf (p1 : Int) (σ : xSt) : Option (Int) :=
  f_Way_knotsOf_4 1000000 p1 0 0 σ
theorem r_Way_knotsOf_4 : ∀ (n : Nat) {l1 : Int} {l2 : Int} {l3 : Int} {σ : xSt} {r : Int}, f_Way_knotsOf_4 n l1 l2 l3 σ = some r → Run 3 10 1 kX10_knotsOf (4, [some (vR 16), some (vI l1), some (vI l2), some (vI l3)], [], σ) ((tI σ) r) := by
  intro n
  induction n with
  | zero =>
    intro _ _ _ _ _ h
    exact nomatch (show (none : Option (Int)) = some _ from h)
  | succ n ih =>
    intro l1 l2 l3 σ r hf
    unfold f_Way_knotsOf_4 at hf
    refine run_seg (k := 4) (s' := (if l3 < σ 16 0 then (12, [some (vR 16), some (vI l1), some (vI l2), some (vI l3)], [], σ) else (30, [some (vR 16), some (vI l1), some (vI l2), some (vI l3)], [], σ))) rfl ?_
    refine run_ite hf (fun _ hf => ?_) (fun _ hf => ?_)
    · refine run_seg (k := 2) (s' := (14, [some (vR 16), some (vI l1), some (vI l2), some (vI l3)], [vI l3, vR 16], σ)) rfl ?_
      refine run_callN (w := fun a => some (vI a)) (m := 137) (as := [vR 16, vI l3]) (pc := 17) (ls := [some (vR 16), some (vI l1), some (vI l2), some (vI l3)]) (st' := []) (σ := σ) hf rfl (fun _ h => (c_Way_endAt h).mono (by decide)) (fun r1 hf => ?_)
      refine run_seg (k := 2) (s' := (if r1 = l1 then (21, [some (vR 16), some (vI l1), some (vI l2), some (vI l3)], [], σ) else (24, [some (vR 16), some (vI l1), some (vI l2), some (vI l3)], [], σ))) rfl ?_
      refine run_ite hf (fun _ hf => ?_) (fun _ hf => ?_)
      · refine run_seg (k := 1) (s' := (24, [some (vR 16), some (vI l1), some (vI (w32 (l2 + 1))), some (vI l3)], [], σ)) rfl ?_
        refine run_let (fun x2 => (24, [some (vR 16), some (vI l1), some (vI x2), some (vI l3)], [], σ)) hf (fun x2 hf => ?_)
        refine run_seg (k := 1) (s' := (27, [some (vR 16), some (vI l1), some (vI x2), some (vI (w32 (l3 + 1)))], [], σ)) rfl ?_
        refine run_let (fun x3 => (27, [some (vR 16), some (vI l1), some (vI x2), some (vI x3)], [], σ)) hf (fun x3 hf => ?_)
        refine run_seg (k := 1) (s' := (4, [some (vR 16), some (vI l1), some (vI x2), some (vI x3)], [], σ)) rfl ?_
        exact ih hf
      · refine run_seg (k := 1) (s' := (27, [some (vR 16), some (vI l1), some (vI l2), some (vI (w32 (l3 + 1)))], [], σ)) rfl ?_
        refine run_let (fun x4 => (27, [some (vR 16), some (vI l1), some (vI l2), some (vI x4)], [], σ)) hf (fun x4 hf => ?_)
        refine run_seg (k := 1) (s' := (4, [some (vR 16), some (vI l1), some (vI l2), some (vI x4)], [], σ)) rfl ?_
        exact ih hf
    · refine run_seg (k := 1) (s' := (31, [some (vR 16), some (vI l1), some (vI l2), some (vI l3)], [vI l2], σ)) rfl ?_
      exact run_ret hf rfl
theorem c_Way_knotsOf {p1 : Int} {σ : xSt} {r : Int} (hf : f_Way_knotsOf p1 σ = some r) : Call (3 + 1) 139 [vR 16, vI p1] σ ((tI σ) r).1 ((tI σ) r).2 := by
  unfold f_Way_knotsOf at hf
  refine call_of (own := 10) (rk := 1) (cd := kX10_knotsOf) (ls := [some (vR 16), some (vI p1), none, none]) (rT := (tI σ)) rfl rfl rfl rfl rfl ?_
  refine run_seg (k := 4) (s' := (4, [some (vR 16), some (vI p1), some (vI 0), some (vI 0)], [], σ)) rfl ?_
  exact r_Way_knotsOf_4 1000000 hf
/-- BentPenny$Sentence.isFact(IILBentPenny$Table;LBentPenny$Way;LBentPenny$Odds;)Z -/
def f_Sentence_isFact (p1 : Int) (p2 : Int) (σ : xSt) : Option (Int) :=
  xbR (f_X_isWithin p1 40 σ) fun r1 =>
  if r1 = 0 then (some 0)
  else (if 0 ≤ p1 ∧ p1 < 40 then (
  if σ 23 p1.toNat = 3 then (if 0 ≤ p1 ∧ p1 < 40 then (
  xbR (f_Odds_areLike p2 (σ 25 p1.toNat) σ) fun r2 =>
  some (xnb r2)) else none)
  else if σ 23 p1.toNat = 4 then (xbR (f_Odds_comes p2 σ) fun r3 =>
  some (xnb r3))
  else if σ 23 p1.toNat = 5 then (xbR (f_Table_hasShare p2 σ) fun r4 =>
  some (xnb r4))
  else if σ 23 p1.toNat = 6 then (if 0 ≤ p1 ∧ p1 < 40 then (
  if 0 ≤ p1 ∧ p1 < 40 then (
  xbR (f_Sentence_isSized p2 (σ 24 p1.toNat) (σ 25 p1.toNat) σ) fun r5 =>
  some (xnb r5)) else none) else none)
  else (xbR (f_Way_knotsOf p2 σ) fun r6 =>
  if 0 ≤ p1 ∧ p1 < 40 then (
  if 0 ≤ p1 ∧ p1 < 40 then (
  xbR (f_Sentence_isSized r6 (σ 24 p1.toNat) (σ 25 p1.toNat) σ) fun r7 =>
  some (xnb r7)) else none) else none)) else none)
theorem c_Sentence_isFact {p1 : Int} {p2 : Int} {σ : xSt} {r : Int} (hf : f_Sentence_isFact p1 p2 σ = some r) : Call (4 + 1) 69 [vR 22, vI p1, vI p2, vR 7, vR 16, vR 87] σ ((tI σ) r).1 ((tI σ) r).2 := by
  unfold f_Sentence_isFact at hf
  refine call_of (own := 5) (rk := 2) (cd := kX5_isFact) (ls := [some (vR 22), some (vI p1), some (vI p2), some (vR 7), some (vR 16), some (vR 87)]) (rT := (tI σ)) rfl rfl rfl rfl rfl ?_
  refine run_seg (k := 2) (s' := (3, [some (vR 22), some (vI p1), some (vI p2), some (vR 7), some (vR 16), some (vR 87)], [vI 40, vI p1], σ)) rfl ?_
  refine run_callN (w := fun a => some (vI a)) (m := 207) (as := [vI p1, vI 40]) (pc := 6) (ls := [some (vR 22), some (vI p1), some (vI p2), some (vR 7), some (vR 16), some (vR 87)]) (st' := []) (σ := σ) hf rfl (fun _ h => (c_X_isWithin h).mono (by decide)) (fun r1 hf => ?_)
  refine run_seg (k := 1) (s' := (if r1 = 0 then (9, [some (vR 22), some (vI p1), some (vI p2), some (vR 7), some (vR 16), some (vR 87)], [], σ) else (11, [some (vR 22), some (vI p1), some (vI p2), some (vR 7), some (vR 16), some (vR 87)], [], σ))) rfl ?_
  refine run_ite hf (fun _ hf => ?_) (fun _ hf => ?_)
  · refine run_seg (k := 1) (s' := (10, [some (vR 22), some (vI p1), some (vI p2), some (vR 7), some (vR 16), some (vR 87)], [vI 0], σ)) rfl ?_
    exact run_ret hf rfl
  · refine run_seg (k := 3) (s' := (16, [some (vR 22), some (vI p1), some (vI p2), some (vR 7), some (vR 16), some (vR 87)], [vI p1, vR 23], σ)) rfl ?_
    refine run_guard (s' := (17, [some (vR 22), some (vI p1), some (vI p2), some (vR 7), some (vR 16), some (vR 87)], [vI (σ 23 p1.toNat)], σ)) hf rfl (fun hf => ?_)
    refine run_seg (k := 1) (s' := (if σ 23 p1.toNat = 3 then (48, [some (vR 22), some (vI p1), some (vI p2), some (vR 7), some (vR 16), some (vR 87)], [], σ) else (if σ 23 p1.toNat = 4 then (61, [some (vR 22), some (vI p1), some (vI p2), some (vR 7), some (vR 16), some (vR 87)], [], σ) else (if σ 23 p1.toNat = 5 then (68, [some (vR 22), some (vI p1), some (vI p2), some (vR 7), some (vR 16), some (vR 87)], [], σ) else (if σ 23 p1.toNat = 6 then (74, [some (vR 22), some (vI p1), some (vI p2), some (vR 7), some (vR 16), some (vR 87)], [], σ) else (91, [some (vR 22), some (vI p1), some (vI p2), some (vR 7), some (vR 16), some (vR 87)], [], σ)))))) rfl ?_
    refine run_ite hf (fun _ hf => ?_) (fun _ hf => ?_)
    · refine run_seg (k := 5) (s' := (56, [some (vR 22), some (vI p1), some (vI p2), some (vR 7), some (vR 16), some (vR 87)], [vI p1, vR 25, vI p2, vR 87], σ)) rfl ?_
      refine run_guard (s' := (57, [some (vR 22), some (vI p1), some (vI p2), some (vR 7), some (vR 16), some (vR 87)], [vI (σ 25 p1.toNat), vI p2, vR 87], σ)) hf rfl (fun hf => ?_)
      refine run_callN (w := fun a => some (vI a)) (m := 52) (as := [vR 87, vI p2, vI (σ 25 p1.toNat)]) (pc := 60) (ls := [some (vR 22), some (vI p1), some (vI p2), some (vR 7), some (vR 16), some (vR 87)]) (st' := []) (σ := σ) hf rfl (fun _ h => (c_Odds_areLike h).mono (by decide)) (fun r2 hf => ?_)
      exact run_ret hf rfl
    · refine run_ite hf (fun _ hf => ?_) (fun _ hf => ?_)
      · refine run_seg (k := 2) (s' := (64, [some (vR 22), some (vI p1), some (vI p2), some (vR 7), some (vR 16), some (vR 87)], [vI p2, vR 87], σ)) rfl ?_
        refine run_callN (w := fun a => some (vI a)) (m := 53) (as := [vR 87, vI p2]) (pc := 67) (ls := [some (vR 22), some (vI p1), some (vI p2), some (vR 7), some (vR 16), some (vR 87)]) (st' := []) (σ := σ) hf rfl (fun _ h => (c_Odds_comes h).mono (by decide)) (fun r3 hf => ?_)
        exact run_ret hf rfl
      · refine run_ite hf (fun _ hf => ?_) (fun _ hf => ?_)
        · refine run_seg (k := 2) (s' := (70, [some (vR 22), some (vI p1), some (vI p2), some (vR 7), some (vR 16), some (vR 87)], [vI p2, vR 7], σ)) rfl ?_
          refine run_callN (w := fun a => some (vI a)) (m := 86) (as := [vR 7, vI p2]) (pc := 73) (ls := [some (vR 22), some (vI p1), some (vI p2), some (vR 7), some (vR 16), some (vR 87)]) (st' := []) (σ := σ) hf rfl (fun _ h => (c_Table_hasShare h).mono (by decide)) (fun r4 hf => ?_)
          exact run_ret hf rfl
        · refine run_ite hf (fun _ hf => ?_) (fun _ hf => ?_)
          · refine run_seg (k := 4) (s' := (80, [some (vR 22), some (vI p1), some (vI p2), some (vR 7), some (vR 16), some (vR 87)], [vI p1, vR 24, vI p2], σ)) rfl ?_
            refine run_guard (s' := (81, [some (vR 22), some (vI p1), some (vI p2), some (vR 7), some (vR 16), some (vR 87)], [vI (σ 24 p1.toNat), vI p2], σ)) hf rfl (fun hf => ?_)
            refine run_seg (k := 3) (s' := (86, [some (vR 22), some (vI p1), some (vI p2), some (vR 7), some (vR 16), some (vR 87)], [vI p1, vR 25, vI (σ 24 p1.toNat), vI p2], σ)) rfl ?_
            refine run_guard (s' := (87, [some (vR 22), some (vI p1), some (vI p2), some (vR 7), some (vR 16), some (vR 87)], [vI (σ 25 p1.toNat), vI (σ 24 p1.toNat), vI p2], σ)) hf rfl (fun hf => ?_)
            refine run_callN (w := fun a => some (vI a)) (m := 70) (as := [vI p2, vI (σ 24 p1.toNat), vI (σ 25 p1.toNat)]) (pc := 90) (ls := [some (vR 22), some (vI p1), some (vI p2), some (vR 7), some (vR 16), some (vR 87)]) (st' := []) (σ := σ) hf rfl (fun _ h => (c_Sentence_isSized h).mono (by decide)) (fun r5 hf => ?_)
            exact run_ret hf rfl
          · refine run_seg (k := 2) (s' := (94, [some (vR 22), some (vI p1), some (vI p2), some (vR 7), some (vR 16), some (vR 87)], [vI p2, vR 16], σ)) rfl ?_
            refine run_callN (w := fun a => some (vI a)) (m := 139) (as := [vR 16, vI p2]) (pc := 97) (ls := [some (vR 22), some (vI p1), some (vI p2), some (vR 7), some (vR 16), some (vR 87)]) (st' := []) (σ := σ) hf rfl (fun _ h => (c_Way_knotsOf h).mono (by decide)) (fun r6 hf => ?_)
            refine run_seg (k := 3) (s' := (102, [some (vR 22), some (vI p1), some (vI p2), some (vR 7), some (vR 16), some (vR 87)], [vI p1, vR 24, vI r6], σ)) rfl ?_
            refine run_guard (s' := (103, [some (vR 22), some (vI p1), some (vI p2), some (vR 7), some (vR 16), some (vR 87)], [vI (σ 24 p1.toNat), vI r6], σ)) hf rfl (fun hf => ?_)
            refine run_seg (k := 3) (s' := (108, [some (vR 22), some (vI p1), some (vI p2), some (vR 7), some (vR 16), some (vR 87)], [vI p1, vR 25, vI (σ 24 p1.toNat), vI r6], σ)) rfl ?_
            refine run_guard (s' := (109, [some (vR 22), some (vI p1), some (vI p2), some (vR 7), some (vR 16), some (vR 87)], [vI (σ 25 p1.toNat), vI (σ 24 p1.toNat), vI r6], σ)) hf rfl (fun hf => ?_)
            refine run_callN (w := fun a => some (vI a)) (m := 70) (as := [vI r6, vI (σ 24 p1.toNat), vI (σ 25 p1.toNat)]) (pc := 112) (ls := [some (vR 22), some (vI p1), some (vI p2), some (vR 7), some (vR 16), some (vR 87)]) (st' := []) (σ := σ) hf rfl (fun _ h => (c_Sentence_isSized h).mono (by decide)) (fun r7 hf => ?_)
            exact run_ret hf rfl
def f_Sentence_holdsFor_128 (l5 : Int) (σ : xSt) : Option (Int) :=
  if xand l5 1 = 1 then (some 1)
  else (some 0)
def f_Sentence_holdsFor_6 : Nat → Int → Int → Int → xSt → Option (Int)
  | 0, _, _, _, _ => none
  | n + 1, l1, l5, l6, σ =>
    if l6 < σ 22 1 then (if l6 < 40 then (xlet (xand l5 1) fun x1 =>
    if 0 ≤ l6 ∧ l6 < 40 then (
    if σ 23 l6.toNat = 0 then (xlet (xxor l5 1) fun x2 =>
    xlet (w32 (l6 + 1)) fun x3 =>
    f_Sentence_holdsFor_6 n l1 x2 x3 σ)
    else (if 0 ≤ l6 ∧ l6 < 40 then (
    if σ 23 l6.toNat = 2 then (xlet (xor32 (xushr l5 1) x1) fun x4 =>
    xlet (w32 (l6 + 1)) fun x5 =>
    f_Sentence_holdsFor_6 n l1 x4 x5 σ)
    else (if 0 ≤ l6 ∧ l6 < 40 then (
    if σ 23 l6.toNat = 1 then (xlet (xand (xushr l5 1) (xor32 (-2) x1)) fun x6 =>
    xlet (w32 (l6 + 1)) fun x7 =>
    f_Sentence_holdsFor_6 n l1 x6 x7 σ)
    else (xbR (f_Sentence_isFact l6 l1 σ) fun r8 =>
    if r8 = 0 then (xlet (xor32 (xshl l5 1) 0) fun x9 =>
    xlet (w32 (l6 + 1)) fun x10 =>
    f_Sentence_holdsFor_6 n l1 x9 x10 σ)
    else (xlet (xor32 (xshl l5 1) 1) fun x11 =>
    xlet (w32 (l6 + 1)) fun x12 =>
    f_Sentence_holdsFor_6 n l1 x11 x12 σ))) else none)) else none)) else none)
    else (f_Sentence_holdsFor_128 l5 σ))
    else (f_Sentence_holdsFor_128 l5 σ)
/-- BentPenny$Sentence.holdsFor(ILBentPenny$Table;LBentPenny$Way;LBentPenny$Odds;)Z -/
def f_Sentence_holdsFor (p1 : Int) (σ : xSt) : Option (Int) :=
  f_Sentence_holdsFor_6 1000000 p1 0 0 σ
theorem r_Sentence_holdsFor_128 {l5 : Int} {g0 : Option xV} {g1 : Option xV} {g2 : Option xV} {g3 : Option xV} {g4 : Option xV} {g6 : Option xV} {g7 : Option xV} {σ : xSt} {r : Int} (hf : f_Sentence_holdsFor_128 l5 σ = some r) : Run 5 5 2 kX5_holdsFor (128, [g0, g1, g2, g3, g4, some (vI l5), g6, g7], [], σ) ((tI σ) r) := by
  unfold f_Sentence_holdsFor_128 at hf
  refine run_seg (k := 5) (s' := (if xand l5 1 = 1 then (136, [g0, g1, g2, g3, g4, some (vI l5), g6, g7], [], σ) else (140, [g0, g1, g2, g3, g4, some (vI l5), g6, g7], [], σ))) rfl ?_
  refine run_ite hf (fun _ hf => ?_) (fun _ hf => ?_)
  · refine run_seg (k := 2) (s' := (141, [g0, g1, g2, g3, g4, some (vI l5), g6, g7], [vI 1], σ)) rfl ?_
    exact run_ret hf rfl
  · refine run_seg (k := 1) (s' := (141, [g0, g1, g2, g3, g4, some (vI l5), g6, g7], [vI 0], σ)) rfl ?_
    exact run_ret hf rfl
theorem r_Sentence_holdsFor_6 : ∀ (n : Nat) {l1 : Int} {l5 : Int} {l6 : Int} {g7 : Option xV} {σ : xSt} {r : Int}, f_Sentence_holdsFor_6 n l1 l5 l6 σ = some r → Run 5 5 2 kX5_holdsFor (6, [some (vR 22), some (vI l1), some (vR 7), some (vR 16), some (vR 87), some (vI l5), some (vI l6), g7], [], σ) ((tI σ) r) := by
  intro n
  induction n with
  | zero =>
    intro _ _ _ _ _ _ h
    exact nomatch (show (none : Option (Int)) = some _ from h)
  | succ n ih =>
    intro l1 l5 l6 g7 σ r hf
    unfold f_Sentence_holdsFor_6 at hf
    refine run_seg (k := 4) (s' := (if l6 < σ 22 1 then (15, [some (vR 22), some (vI l1), some (vR 7), some (vR 16), some (vR 87), some (vI l5), some (vI l6), g7], [], σ) else (128, [some (vR 22), some (vI l1), some (vR 7), some (vR 16), some (vR 87), some (vI l5), some (vI l6), g7], [], σ))) rfl ?_
    refine run_ite hf (fun _ hf => ?_) (fun _ hf => ?_)
    · refine run_seg (k := 3) (s' := (if l6 < 40 then (22, [some (vR 22), some (vI l1), some (vR 7), some (vR 16), some (vR 87), some (vI l5), some (vI l6), g7], [], σ) else (128, [some (vR 22), some (vI l1), some (vR 7), some (vR 16), some (vR 87), some (vI l5), some (vI l6), g7], [], σ))) rfl ?_
      refine run_ite hf (fun _ hf => ?_) (fun _ hf => ?_)
      · refine run_seg (k := 4) (s' := (28, [some (vR 22), some (vI l1), some (vR 7), some (vR 16), some (vR 87), some (vI l5), some (vI l6), some (vI (xand l5 1))], [], σ)) rfl ?_
        refine run_let (fun x1 => (28, [some (vR 22), some (vI l1), some (vR 7), some (vR 16), some (vR 87), some (vI l5), some (vI l6), some (vI x1)], [], σ)) hf (fun x1 hf => ?_)
        refine run_seg (k := 3) (s' := (34, [some (vR 22), some (vI l1), some (vR 7), some (vR 16), some (vR 87), some (vI l5), some (vI l6), some (vI x1)], [vI l6, vR 23], σ)) rfl ?_
        refine run_guard (s' := (35, [some (vR 22), some (vI l1), some (vR 7), some (vR 16), some (vR 87), some (vI l5), some (vI l6), some (vI x1)], [vI (σ 23 l6.toNat)], σ)) hf rfl (fun hf => ?_)
        refine run_seg (k := 1) (s' := (if σ 23 l6.toNat = 0 then (38, [some (vR 22), some (vI l1), some (vR 7), some (vR 16), some (vR 87), some (vI l5), some (vI l6), some (vI x1)], [], σ) else (47, [some (vR 22), some (vI l1), some (vR 7), some (vR 16), some (vR 87), some (vI l5), some (vI l6), some (vI x1)], [], σ))) rfl ?_
        refine run_ite hf (fun _ hf => ?_) (fun _ hf => ?_)
        · refine run_seg (k := 4) (s' := (44, [some (vR 22), some (vI l1), some (vR 7), some (vR 16), some (vR 87), some (vI (xxor l5 1)), some (vI l6), some (vI x1)], [], σ)) rfl ?_
          refine run_let (fun x2 => (44, [some (vR 22), some (vI l1), some (vR 7), some (vR 16), some (vR 87), some (vI x2), some (vI l6), some (vI x1)], [], σ)) hf (fun x2 hf => ?_)
          refine run_seg (k := 2) (s' := (125, [some (vR 22), some (vI l1), some (vR 7), some (vR 16), some (vR 87), some (vI x2), some (vI (w32 (l6 + 1))), some (vI x1)], [], σ)) rfl ?_
          refine run_let (fun x3 => (125, [some (vR 22), some (vI l1), some (vR 7), some (vR 16), some (vR 87), some (vI x2), some (vI x3), some (vI x1)], [], σ)) hf (fun x3 hf => ?_)
          refine run_seg (k := 1) (s' := (6, [some (vR 22), some (vI l1), some (vR 7), some (vR 16), some (vR 87), some (vI x2), some (vI x3), some (vI x1)], [], σ)) rfl ?_
          exact ih hf
        · refine run_seg (k := 3) (s' := (53, [some (vR 22), some (vI l1), some (vR 7), some (vR 16), some (vR 87), some (vI l5), some (vI l6), some (vI x1)], [vI l6, vR 23], σ)) rfl ?_
          refine run_guard (s' := (54, [some (vR 22), some (vI l1), some (vR 7), some (vR 16), some (vR 87), some (vI l5), some (vI l6), some (vI x1)], [vI (σ 23 l6.toNat)], σ)) hf rfl (fun hf => ?_)
          refine run_seg (k := 2) (s' := (if σ 23 l6.toNat = 2 then (58, [some (vR 22), some (vI l1), some (vR 7), some (vR 16), some (vR 87), some (vI l5), some (vI l6), some (vI x1)], [], σ) else (70, [some (vR 22), some (vI l1), some (vR 7), some (vR 16), some (vR 87), some (vI l5), some (vI l6), some (vI x1)], [], σ))) rfl ?_
          refine run_ite hf (fun _ hf => ?_) (fun _ hf => ?_)
          · refine run_seg (k := 6) (s' := (67, [some (vR 22), some (vI l1), some (vR 7), some (vR 16), some (vR 87), some (vI (xor32 (xushr l5 1) x1)), some (vI l6), some (vI x1)], [], σ)) rfl ?_
            refine run_let (fun x4 => (67, [some (vR 22), some (vI l1), some (vR 7), some (vR 16), some (vR 87), some (vI x4), some (vI l6), some (vI x1)], [], σ)) hf (fun x4 hf => ?_)
            refine run_seg (k := 2) (s' := (125, [some (vR 22), some (vI l1), some (vR 7), some (vR 16), some (vR 87), some (vI x4), some (vI (w32 (l6 + 1))), some (vI x1)], [], σ)) rfl ?_
            refine run_let (fun x5 => (125, [some (vR 22), some (vI l1), some (vR 7), some (vR 16), some (vR 87), some (vI x4), some (vI x5), some (vI x1)], [], σ)) hf (fun x5 hf => ?_)
            refine run_seg (k := 1) (s' := (6, [some (vR 22), some (vI l1), some (vR 7), some (vR 16), some (vR 87), some (vI x4), some (vI x5), some (vI x1)], [], σ)) rfl ?_
            exact ih hf
          · refine run_seg (k := 3) (s' := (76, [some (vR 22), some (vI l1), some (vR 7), some (vR 16), some (vR 87), some (vI l5), some (vI l6), some (vI x1)], [vI l6, vR 23], σ)) rfl ?_
            refine run_guard (s' := (77, [some (vR 22), some (vI l1), some (vR 7), some (vR 16), some (vR 87), some (vI l5), some (vI l6), some (vI x1)], [vI (σ 23 l6.toNat)], σ)) hf rfl (fun hf => ?_)
            refine run_seg (k := 2) (s' := (if σ 23 l6.toNat = 1 then (81, [some (vR 22), some (vI l1), some (vR 7), some (vR 16), some (vR 87), some (vI l5), some (vI l6), some (vI x1)], [], σ) else (96, [some (vR 22), some (vI l1), some (vR 7), some (vR 16), some (vR 87), some (vI l5), some (vI l6), some (vI x1)], [], σ))) rfl ?_
            refine run_ite hf (fun _ hf => ?_) (fun _ hf => ?_)
            · refine run_seg (k := 8) (s' := (93, [some (vR 22), some (vI l1), some (vR 7), some (vR 16), some (vR 87), some (vI (xand (xushr l5 1) (xor32 (-2) x1))), some (vI l6), some (vI x1)], [], σ)) rfl ?_
              refine run_let (fun x6 => (93, [some (vR 22), some (vI l1), some (vR 7), some (vR 16), some (vR 87), some (vI x6), some (vI l6), some (vI x1)], [], σ)) hf (fun x6 hf => ?_)
              refine run_seg (k := 2) (s' := (125, [some (vR 22), some (vI l1), some (vR 7), some (vR 16), some (vR 87), some (vI x6), some (vI (w32 (l6 + 1))), some (vI x1)], [], σ)) rfl ?_
              refine run_let (fun x7 => (125, [some (vR 22), some (vI l1), some (vR 7), some (vR 16), some (vR 87), some (vI x6), some (vI x7), some (vI x1)], [], σ)) hf (fun x7 hf => ?_)
              refine run_seg (k := 1) (s' := (6, [some (vR 22), some (vI l1), some (vR 7), some (vR 16), some (vR 87), some (vI x6), some (vI x7), some (vI x1)], [], σ)) rfl ?_
              exact ih hf
            · refine run_seg (k := 9) (s' := (108, [some (vR 22), some (vI l1), some (vR 7), some (vR 16), some (vR 87), some (vI l5), some (vI l6), some (vI x1)], [vR 87, vR 16, vR 7, vI l1, vI l6, vR 22, vI (xshl l5 1)], σ)) rfl ?_
              refine run_callN (w := fun a => some (vI a)) (m := 69) (as := [vR 22, vI l6, vI l1, vR 7, vR 16, vR 87]) (pc := 111) (ls := [some (vR 22), some (vI l1), some (vR 7), some (vR 16), some (vR 87), some (vI l5), some (vI l6), some (vI x1)]) (st' := [vI (xshl l5 1)]) (σ := σ) hf rfl (fun _ h => (c_Sentence_isFact h).mono (by decide)) (fun r8 hf => ?_)
              refine run_seg (k := 1) (s' := (if r8 = 0 then (118, [some (vR 22), some (vI l1), some (vR 7), some (vR 16), some (vR 87), some (vI l5), some (vI l6), some (vI x1)], [vI (xshl l5 1)], σ) else (114, [some (vR 22), some (vI l1), some (vR 7), some (vR 16), some (vR 87), some (vI l5), some (vI l6), some (vI x1)], [vI (xshl l5 1)], σ))) rfl ?_
              refine run_ite hf (fun _ hf => ?_) (fun _ hf => ?_)
              · refine run_seg (k := 3) (s' := (122, [some (vR 22), some (vI l1), some (vR 7), some (vR 16), some (vR 87), some (vI (xor32 (xshl l5 1) 0)), some (vI l6), some (vI x1)], [], σ)) rfl ?_
                refine run_let (fun x9 => (122, [some (vR 22), some (vI l1), some (vR 7), some (vR 16), some (vR 87), some (vI x9), some (vI l6), some (vI x1)], [], σ)) hf (fun x9 hf => ?_)
                refine run_seg (k := 1) (s' := (125, [some (vR 22), some (vI l1), some (vR 7), some (vR 16), some (vR 87), some (vI x9), some (vI (w32 (l6 + 1))), some (vI x1)], [], σ)) rfl ?_
                refine run_let (fun x10 => (125, [some (vR 22), some (vI l1), some (vR 7), some (vR 16), some (vR 87), some (vI x9), some (vI x10), some (vI x1)], [], σ)) hf (fun x10 hf => ?_)
                refine run_seg (k := 1) (s' := (6, [some (vR 22), some (vI l1), some (vR 7), some (vR 16), some (vR 87), some (vI x9), some (vI x10), some (vI x1)], [], σ)) rfl ?_
                exact ih hf
              · refine run_seg (k := 4) (s' := (122, [some (vR 22), some (vI l1), some (vR 7), some (vR 16), some (vR 87), some (vI (xor32 (xshl l5 1) 1)), some (vI l6), some (vI x1)], [], σ)) rfl ?_
                refine run_let (fun x11 => (122, [some (vR 22), some (vI l1), some (vR 7), some (vR 16), some (vR 87), some (vI x11), some (vI l6), some (vI x1)], [], σ)) hf (fun x11 hf => ?_)
                refine run_seg (k := 1) (s' := (125, [some (vR 22), some (vI l1), some (vR 7), some (vR 16), some (vR 87), some (vI x11), some (vI (w32 (l6 + 1))), some (vI x1)], [], σ)) rfl ?_
                refine run_let (fun x12 => (125, [some (vR 22), some (vI l1), some (vR 7), some (vR 16), some (vR 87), some (vI x11), some (vI x12), some (vI x1)], [], σ)) hf (fun x12 hf => ?_)
                refine run_seg (k := 1) (s' := (6, [some (vR 22), some (vI l1), some (vR 7), some (vR 16), some (vR 87), some (vI x11), some (vI x12), some (vI x1)], [], σ)) rfl ?_
                exact ih hf
      · exact r_Sentence_holdsFor_128 hf
    · exact r_Sentence_holdsFor_128 hf
theorem c_Sentence_holdsFor {p1 : Int} {σ : xSt} {r : Int} (hf : f_Sentence_holdsFor p1 σ = some r) : Call (5 + 1) 68 [vR 22, vI p1, vR 7, vR 16, vR 87] σ ((tI σ) r).1 ((tI σ) r).2 := by
  unfold f_Sentence_holdsFor at hf
  refine call_of (own := 5) (rk := 2) (cd := kX5_holdsFor) (ls := [some (vR 22), some (vI p1), some (vR 7), some (vR 16), some (vR 87), none, none, none]) (rT := (tI σ)) rfl rfl rfl rfl rfl ?_
  refine run_seg (k := 4) (s' := (6, [some (vR 22), some (vI p1), some (vR 7), some (vR 16), some (vR 87), some (vI 0), some (vI 0), none], [], σ)) rfl ?_
  exact r_Sentence_holdsFor_6 1000000 hf
def f_X_said_58 : Nat → Int → Int → Int → xSt → Option (Int × xSt)
  | 0, _, _, _, _ => none
  | n + 1, l1, l2, l3, σ =>
    if l3 < σ 7 2 then (xbR (f_Sentence_holdsFor l3 σ) fun r4 =>
    if r4 = 0 then (xlet (w32 (l3 + 1)) fun x5 =>
    f_X_said_58 n l1 l2 x5 σ)
    else (if l2 = l1 then (some (l3, σ))
    else (xlet (w32 (l2 + 1)) fun x6 =>
    xlet (w32 (l3 + 1)) fun x7 =>
    f_X_said_58 n l1 x6 x7 σ)))
    else (if l1 = (-1) then (some (l2, σ))
    else (some ((-1), σ)))
/-- BentPenny.said(I)I -/
def f_X_said (p1 : Int) (σ : xSt) : Option (Int × xSt) :=
  if p1 < (-1) then (some ((-1), σ))
  else (xbR (f_Sentence_isTold σ) fun r1 =>
  if r1 = 0 then (some ((-1), σ))
  else (xbR (f_Way_isTold σ) fun r2 =>
  if r2 = 0 then (some ((-1), σ))
  else (xbR (f_Odds_tellPolynomials σ) fun σ3 =>
  f_X_said_58 1000000 p1 0 0 σ3)))
theorem r_X_said_58 : ∀ (n : Nat) {l1 : Int} {l2 : Int} {l3 : Int} {σ : xSt} {r : Int × xSt}, f_X_said_58 n l1 l2 l3 σ = some r → Run 6 11 1 kX11_said (58, [some (vR 0), some (vI l1), some (vI l2), some (vI l3)], [], σ) (tIW r) := by
  intro n
  induction n with
  | zero =>
    intro _ _ _ _ _ h
    exact nomatch (show (none : Option (Int × xSt)) = some _ from h)
  | succ n ih =>
    intro l1 l2 l3 σ r hf
    unfold f_X_said_58 at hf
    refine run_seg (k := 6) (s' := (if l3 < σ 7 2 then (72, [some (vR 0), some (vI l1), some (vI l2), some (vI l3)], [], σ) else (120, [some (vR 0), some (vI l1), some (vI l2), some (vI l3)], [], σ))) rfl ?_
    refine run_ite hf (fun _ hf => ?_) (fun _ hf => ?_)
    · refine run_seg (k := 12) (s' := (98, [some (vR 0), some (vI l1), some (vI l2), some (vI l3)], [vR 87, vR 16, vR 7, vI l3, vR 22], σ)) rfl ?_
      refine run_callN (w := fun a => some (vI a)) (m := 68) (as := [vR 22, vI l3, vR 7, vR 16, vR 87]) (pc := 101) (ls := [some (vR 0), some (vI l1), some (vI l2), some (vI l3)]) (st' := []) (σ := σ) hf rfl (fun _ h => (c_Sentence_holdsFor h).mono (by decide)) (fun r4 hf => ?_)
      refine run_seg (k := 1) (s' := (if r4 = 0 then (114, [some (vR 0), some (vI l1), some (vI l2), some (vI l3)], [], σ) else (104, [some (vR 0), some (vI l1), some (vI l2), some (vI l3)], [], σ))) rfl ?_
      refine run_ite hf (fun _ hf => ?_) (fun _ hf => ?_)
      · refine run_seg (k := 1) (s' := (117, [some (vR 0), some (vI l1), some (vI l2), some (vI (w32 (l3 + 1)))], [], σ)) rfl ?_
        refine run_let (fun x5 => (117, [some (vR 0), some (vI l1), some (vI l2), some (vI x5)], [], σ)) hf (fun x5 hf => ?_)
        refine run_seg (k := 1) (s' := (58, [some (vR 0), some (vI l1), some (vI l2), some (vI x5)], [], σ)) rfl ?_
        exact ih hf
      · refine run_seg (k := 3) (s' := (if l2 = l1 then (109, [some (vR 0), some (vI l1), some (vI l2), some (vI l3)], [], σ) else (111, [some (vR 0), some (vI l1), some (vI l2), some (vI l3)], [], σ))) rfl ?_
        refine run_ite hf (fun _ hf => ?_) (fun _ hf => ?_)
        · refine run_seg (k := 1) (s' := (110, [some (vR 0), some (vI l1), some (vI l2), some (vI l3)], [vI l3], σ)) rfl ?_
          exact run_ret hf rfl
        · refine run_seg (k := 1) (s' := (114, [some (vR 0), some (vI l1), some (vI (w32 (l2 + 1))), some (vI l3)], [], σ)) rfl ?_
          refine run_let (fun x6 => (114, [some (vR 0), some (vI l1), some (vI x6), some (vI l3)], [], σ)) hf (fun x6 hf => ?_)
          refine run_seg (k := 1) (s' := (117, [some (vR 0), some (vI l1), some (vI x6), some (vI (w32 (l3 + 1)))], [], σ)) rfl ?_
          refine run_let (fun x7 => (117, [some (vR 0), some (vI l1), some (vI x6), some (vI x7)], [], σ)) hf (fun x7 hf => ?_)
          refine run_seg (k := 1) (s' := (58, [some (vR 0), some (vI l1), some (vI x6), some (vI x7)], [], σ)) rfl ?_
          exact ih hf
    · refine run_seg (k := 3) (s' := (if l1 = (-1) then (125, [some (vR 0), some (vI l1), some (vI l2), some (vI l3)], [], σ) else (129, [some (vR 0), some (vI l1), some (vI l2), some (vI l3)], [], σ))) rfl ?_
      refine run_ite hf (fun _ hf => ?_) (fun _ hf => ?_)
      · refine run_seg (k := 2) (s' := (130, [some (vR 0), some (vI l1), some (vI l2), some (vI l3)], [vI l2], σ)) rfl ?_
        exact run_ret hf rfl
      · refine run_seg (k := 1) (s' := (130, [some (vR 0), some (vI l1), some (vI l2), some (vI l3)], [vI (-1)], σ)) rfl ?_
        exact run_ret hf rfl
theorem c_X_said {p1 : Int} {σ : xSt} {r : Int × xSt} (hf : f_X_said p1 σ = some r) : Call (6 + 1) 202 [vR 0, vI p1] σ (tIW r).1 (tIW r).2 := by
  unfold f_X_said at hf
  refine call_of (own := 11) (rk := 1) (cd := kX11_said) (ls := [some (vR 0), some (vI p1), none, none]) (rT := tIW) rfl rfl rfl rfl rfl ?_
  refine run_seg (k := 3) (s' := (if p1 < (-1) then (31, [some (vR 0), some (vI p1), none, none], [], σ) else (5, [some (vR 0), some (vI p1), none, none], [], σ))) rfl ?_
  refine run_ite hf (fun _ hf => ?_) (fun _ hf => ?_)
  · refine run_seg (k := 1) (s' := (32, [some (vR 0), some (vI p1), none, none], [vI (-1)], σ)) rfl ?_
    exact run_ret hf rfl
  · refine run_seg (k := 3) (s' := (12, [some (vR 0), some (vI p1), none, none], [vR 22], σ)) rfl ?_
    refine run_callN (w := fun a => some (vI a)) (m := 60) (as := [vR 22]) (pc := 15) (ls := [some (vR 0), some (vI p1), none, none]) (st' := []) (σ := σ) hf rfl (fun _ h => (c_Sentence_isTold h).mono (by decide)) (fun r1 hf => ?_)
    refine run_seg (k := 1) (s' := (if r1 = 0 then (31, [some (vR 0), some (vI p1), none, none], [], σ) else (18, [some (vR 0), some (vI p1), none, none], [], σ))) rfl ?_
    refine run_ite hf (fun _ hf => ?_) (fun _ hf => ?_)
    · refine run_seg (k := 1) (s' := (32, [some (vR 0), some (vI p1), none, none], [vI (-1)], σ)) rfl ?_
      exact run_ret hf rfl
    · refine run_seg (k := 3) (s' := (25, [some (vR 0), some (vI p1), none, none], [vR 16], σ)) rfl ?_
      refine run_callN (w := fun a => some (vI a)) (m := 129) (as := [vR 16]) (pc := 28) (ls := [some (vR 0), some (vI p1), none, none]) (st' := []) (σ := σ) hf rfl (fun _ h => (c_Way_isTold h).mono (by decide)) (fun r2 hf => ?_)
      refine run_seg (k := 1) (s' := (if r2 = 0 then (31, [some (vR 0), some (vI p1), none, none], [], σ) else (33, [some (vR 0), some (vI p1), none, none], [], σ))) rfl ?_
      refine run_ite hf (fun _ hf => ?_) (fun _ hf => ?_)
      · refine run_seg (k := 1) (s' := (32, [some (vR 0), some (vI p1), none, none], [vI (-1)], σ)) rfl ?_
        exact run_ret hf rfl
      · refine run_seg (k := 8) (s' := (51, [some (vR 0), some (vI p1), none, none], [vR 16, vR 7, vR 87], σ)) rfl ?_
        refine run_callV (m := 49) (as := [vR 87, vR 7, vR 16]) (pc := 54) (ls := [some (vR 0), some (vI p1), none, none]) (st' := []) (σ := σ) hf rfl (fun _ h => (c_Odds_tellPolynomials h).mono (by decide)) (fun σ3 hf => ?_)
        refine run_seg (k := 4) (s' := (58, [some (vR 0), some (vI p1), some (vI 0), some (vI 0)], [], σ3)) rfl ?_
        exact r_X_said_58 1000000 hf
/-- BentPenny.count(I)I -/
def f_X_count (p1 : Int) (σ : xSt) : Option (Int) :=
  if p1 = 0 then (some (σ 7 1))
  else if p1 = 1 then (some (σ 7 2))
  else if p1 = 2 then (some (σ 16 0))
  else if p1 = 3 then (some (σ 7 3))
  else if p1 = 4 then (some (σ 0 1))
  else (some (-1))
theorem c_X_count {p1 : Int} {σ : xSt} {r : Int} (hf : f_X_count p1 σ = some r) : Call (0 + 1) 206 [vR 0, vI p1] σ ((tI σ) r).1 ((tI σ) r).2 := by
  unfold f_X_count at hf
  refine call_of (own := 11) (rk := 1) (cd := kX11_count) (ls := [some (vR 0), some (vI p1)]) (rT := (tI σ)) rfl rfl rfl rfl rfl ?_
  refine run_seg (k := 2) (s' := (if p1 = 0 then (36, [some (vR 0), some (vI p1)], [], σ) else (if p1 = 1 then (47, [some (vR 0), some (vI p1)], [], σ) else (if p1 = 2 then (58, [some (vR 0), some (vI p1)], [], σ) else (if p1 = 3 then (69, [some (vR 0), some (vI p1)], [], σ) else (if p1 = 4 then (80, [some (vR 0), some (vI p1)], [], σ) else (85, [some (vR 0), some (vI p1)], [], σ))))))) rfl ?_
  refine run_ite hf (fun _ hf => ?_) (fun _ hf => ?_)
  · refine run_seg (k := 4) (s' := (46, [some (vR 0), some (vI p1)], [vI (σ 7 1)], σ)) rfl ?_
    exact run_ret hf rfl
  · refine run_ite hf (fun _ hf => ?_) (fun _ hf => ?_)
    · refine run_seg (k := 4) (s' := (57, [some (vR 0), some (vI p1)], [vI (σ 7 2)], σ)) rfl ?_
      exact run_ret hf rfl
    · refine run_ite hf (fun _ hf => ?_) (fun _ hf => ?_)
      · refine run_seg (k := 4) (s' := (68, [some (vR 0), some (vI p1)], [vI (σ 16 0)], σ)) rfl ?_
        exact run_ret hf rfl
      · refine run_ite hf (fun _ hf => ?_) (fun _ hf => ?_)
        · refine run_seg (k := 4) (s' := (79, [some (vR 0), some (vI p1)], [vI (σ 7 3)], σ)) rfl ?_
          exact run_ret hf rfl
        · refine run_ite hf (fun _ hf => ?_) (fun _ hf => ?_)
          · refine run_seg (k := 2) (s' := (84, [some (vR 0), some (vI p1)], [vI (σ 0 1)], σ)) rfl ?_
            exact run_ret hf rfl
          · refine run_seg (k := 1) (s' := (86, [some (vR 0), some (vI p1)], [vI (-1)], σ)) rfl ?_
            exact run_ret hf rfl
/-- BentPennyModel.thrown()I -/
def f_M_thrown (σ : xSt) : Option (Int) :=
  some (σ 111 0)
theorem c_M_thrown {σ : xSt} {r : Int} (hf : f_M_thrown σ = some r) : Call (0 + 1) 209 [vR 111] σ ((tI σ) r).1 ((tI σ) r).2 := by
  unfold f_M_thrown at hf
  refine call_of (own := 12) (rk := 1) (cd := kX12_thrown) (ls := [some (vR 111)]) (rT := (tI σ)) rfl rfl rfl rfl rfl ?_
  refine run_seg (k := 2) (s' := (4, [some (vR 111)], [vI (σ 111 0)], σ)) rfl ?_
  exact run_ret hf rfl
/-- BentPennyModel.refuse()I -/
def f_M_refuse (σ : xSt) : Option (Int × xSt) :=
  xlet (upS σ 111 0 1) fun σ1 =>
  some (0, σ1)
theorem c_M_refuse {σ : xSt} {r : Int × xSt} (hf : f_M_refuse σ = some r) : Call (0 + 1) 210 [vR 111] σ (tIW r).1 (tIW r).2 := by
  unfold f_M_refuse at hf
  refine call_of (own := 12) (rk := 1) (cd := kX12_refuse) (ls := [some (vR 111)]) (rT := tIW) rfl rfl rfl rfl rfl ?_
  refine run_seg (k := 3) (s' := (5, [some (vR 111)], [], upS σ 111 0 1)) rfl ?_
  refine run_let (fun σ1 => (5, [some (vR 111)], [], σ1)) hf (fun σ1 hf => ?_)
  refine run_seg (k := 1) (s' := (6, [some (vR 111)], [vI 0], σ1)) rfl ?_
  exact run_ret hf rfl
/-- BentPennyModel.refuseLong()J -/
def f_M_refuseLong (σ : xSt) : Option (Int × xSt) :=
  xlet (upS σ 111 0 1) fun σ1 =>
  some (0, σ1)
theorem c_M_refuseLong {σ : xSt} {r : Int × xSt} (hf : f_M_refuseLong σ = some r) : Call (0 + 1) 211 [vR 111] σ (tLW r).1 (tLW r).2 := by
  unfold f_M_refuseLong at hf
  refine call_of (own := 12) (rk := 3) (cd := kX12_refuseLong) (ls := [some (vR 111)]) (rT := tLW) rfl rfl rfl rfl rfl ?_
  refine run_seg (k := 3) (s' := (5, [some (vR 111)], [], upS σ 111 0 1)) rfl ?_
  refine run_let (fun σ1 => (5, [some (vR 111)], [], σ1)) hf (fun σ1 hf => ?_)
  refine run_seg (k := 1) (s' := (6, [some (vR 111)], [vL 0], σ1)) rfl ?_
  exact run_ret hf rfl
def f_M_come_3 : Nat → Int → Int → xSt → Option (xSt)
  | 0, _, _, _ => none
  | n + 1, l1, l2, σ =>
    if l2 < 0 then (some σ)
    else (if 0 ≤ σ 111 2 ∧ σ 111 2 < 640 then (
    xlet (upS σ 112 (σ 111 2).toNat (xand (xushr l1 l2) 255)) fun σ1 =>
    xlet (upS σ1 111 2 (w32 ((σ1 111 2) + 1))) fun σ2 =>
    xlet (w32 (l2 + (-8))) fun x3 =>
    f_M_come_3 n l1 x3 σ2) else none)
/-- BentPennyModel.come(I)V -/
def f_M_come (p1 : Int) (σ : xSt) : Option (xSt) :=
  f_M_come_3 1000000 p1 24 σ
theorem r_M_come_3 : ∀ (n : Nat) {l1 : Int} {l2 : Int} {σ : xSt} {r : xSt}, f_M_come_3 n l1 l2 σ = some r → Run 0 12 0 kX12_come (3, [some (vR 111), some (vI l1), some (vI l2)], [], σ) (tV r) := by
  intro n
  induction n with
  | zero =>
    intro _ _ _ _ h
    exact nomatch (show (none : Option (xSt)) = some _ from h)
  | succ n ih =>
    intro l1 l2 σ r hf
    unfold f_M_come_3 at hf
    refine run_seg (k := 2) (s' := (if l2 < 0 then (39, [some (vR 111), some (vI l1), some (vI l2)], [], σ) else (7, [some (vR 111), some (vI l1), some (vI l2)], [], σ))) rfl ?_
    refine run_ite hf (fun _ hf => ?_) (fun _ hf => ?_)
    · exact run_ret hf rfl
    · refine run_seg (k := 9) (s' := (22, [some (vR 111), some (vI l1), some (vI l2)], [vI (xand (xushr l1 l2) 255), vI (σ 111 2), vR 112], σ)) rfl ?_
      refine run_guard (s' := (23, [some (vR 111), some (vI l1), some (vI l2)], [], upS σ 112 (σ 111 2).toNat (xand (xushr l1 l2) 255))) hf rfl (fun hf => ?_)
      refine run_let (fun σ1 => (23, [some (vR 111), some (vI l1), some (vI l2)], [], σ1)) hf (fun σ1 hf => ?_)
      refine run_seg (k := 6) (s' := (33, [some (vR 111), some (vI l1), some (vI l2)], [], upS σ1 111 2 (w32 ((σ1 111 2) + 1)))) rfl ?_
      refine run_let (fun σ2 => (33, [some (vR 111), some (vI l1), some (vI l2)], [], σ2)) hf (fun σ2 hf => ?_)
      refine run_seg (k := 1) (s' := (36, [some (vR 111), some (vI l1), some (vI (w32 (l2 + (-8))))], [], σ2)) rfl ?_
      refine run_let (fun x3 => (36, [some (vR 111), some (vI l1), some (vI x3)], [], σ2)) hf (fun x3 hf => ?_)
      refine run_seg (k := 1) (s' := (3, [some (vR 111), some (vI l1), some (vI x3)], [], σ2)) rfl ?_
      exact ih hf
theorem c_M_come {p1 : Int} {σ : xSt} {r : xSt} (hf : f_M_come p1 σ = some r) : Call (0 + 1) 212 [vR 111, vI p1] σ (tV r).1 (tV r).2 := by
  unfold f_M_come at hf
  refine call_of (own := 12) (rk := 0) (cd := kX12_come) (ls := [some (vR 111), some (vI p1), none]) (rT := tV) rfl rfl rfl rfl rfl ?_
  refine run_seg (k := 2) (s' := (3, [some (vR 111), some (vI p1), some (vI 24)], [], σ)) rfl ?_
  exact r_M_come_3 1000000 hf
/-- BentPennyModel.feed(IIIII)I -/
def f_M_feed (p1 : Int) (p2 : Int) (p3 : Int) (p4 : Int) (p5 : Int) (σ : xSt) : Option (Int × xSt) :=
  xlet (upS σ 111 0 0) fun σ1 =>
  if 640 < w32 ((σ1 111 2) + 20) then (some ((-1), σ1))
  else (xbR (f_M_come p1 σ1) fun σ2 =>
  xbR (f_M_come p2 σ2) fun σ3 =>
  xbR (f_M_come p3 σ3) fun σ4 =>
  xbR (f_M_come p4 σ4) fun σ5 =>
  xbR (f_M_come p5 σ5) fun σ6 =>
  some (σ6 111 2, σ6))
theorem c_M_feed {p1 : Int} {p2 : Int} {p3 : Int} {p4 : Int} {p5 : Int} {σ : xSt} {r : Int × xSt} (hf : f_M_feed p1 p2 p3 p4 p5 σ = some r) : Call (1 + 1) 213 [vR 111, vI p1, vI p2, vI p3, vI p4, vI p5] σ (tIW r).1 (tIW r).2 := by
  unfold f_M_feed at hf
  refine call_of (own := 12) (rk := 1) (cd := kX12_feed) (ls := [some (vR 111), some (vI p1), some (vI p2), some (vI p3), some (vI p4), some (vI p5)]) (rT := tIW) rfl rfl rfl rfl rfl ?_
  refine run_seg (k := 3) (s' := (5, [some (vR 111), some (vI p1), some (vI p2), some (vI p3), some (vI p4), some (vI p5)], [], upS σ 111 0 0)) rfl ?_
  refine run_let (fun σ1 => (5, [some (vR 111), some (vI p1), some (vI p2), some (vI p3), some (vI p4), some (vI p5)], [], σ1)) hf (fun σ1 hf => ?_)
  refine run_seg (k := 6) (s' := (if 640 < w32 ((σ1 111 2) + 20) then (18, [some (vR 111), some (vI p1), some (vI p2), some (vI p3), some (vI p4), some (vI p5)], [], σ1) else (20, [some (vR 111), some (vI p1), some (vI p2), some (vI p3), some (vI p4), some (vI p5)], [], σ1))) rfl ?_
  refine run_ite hf (fun _ hf => ?_) (fun _ hf => ?_)
  · refine run_seg (k := 1) (s' := (19, [some (vR 111), some (vI p1), some (vI p2), some (vI p3), some (vI p4), some (vI p5)], [vI (-1)], σ1)) rfl ?_
    exact run_ret hf rfl
  · refine run_seg (k := 2) (s' := (22, [some (vR 111), some (vI p1), some (vI p2), some (vI p3), some (vI p4), some (vI p5)], [vI p1, vR 111], σ1)) rfl ?_
    refine run_callV (m := 212) (as := [vR 111, vI p1]) (pc := 25) (ls := [some (vR 111), some (vI p1), some (vI p2), some (vI p3), some (vI p4), some (vI p5)]) (st' := []) (σ := σ1) hf rfl (fun _ h => (c_M_come h).mono (by decide)) (fun σ2 hf => ?_)
    refine run_seg (k := 2) (s' := (27, [some (vR 111), some (vI p1), some (vI p2), some (vI p3), some (vI p4), some (vI p5)], [vI p2, vR 111], σ2)) rfl ?_
    refine run_callV (m := 212) (as := [vR 111, vI p2]) (pc := 30) (ls := [some (vR 111), some (vI p1), some (vI p2), some (vI p3), some (vI p4), some (vI p5)]) (st' := []) (σ := σ2) hf rfl (fun _ h => (c_M_come h).mono (by decide)) (fun σ3 hf => ?_)
    refine run_seg (k := 2) (s' := (32, [some (vR 111), some (vI p1), some (vI p2), some (vI p3), some (vI p4), some (vI p5)], [vI p3, vR 111], σ3)) rfl ?_
    refine run_callV (m := 212) (as := [vR 111, vI p3]) (pc := 35) (ls := [some (vR 111), some (vI p1), some (vI p2), some (vI p3), some (vI p4), some (vI p5)]) (st' := []) (σ := σ3) hf rfl (fun _ h => (c_M_come h).mono (by decide)) (fun σ4 hf => ?_)
    refine run_seg (k := 2) (s' := (38, [some (vR 111), some (vI p1), some (vI p2), some (vI p3), some (vI p4), some (vI p5)], [vI p4, vR 111], σ4)) rfl ?_
    refine run_callV (m := 212) (as := [vR 111, vI p4]) (pc := 41) (ls := [some (vR 111), some (vI p1), some (vI p2), some (vI p3), some (vI p4), some (vI p5)]) (st' := []) (σ := σ4) hf rfl (fun _ h => (c_M_come h).mono (by decide)) (fun σ5 hf => ?_)
    refine run_seg (k := 2) (s' := (44, [some (vR 111), some (vI p1), some (vI p2), some (vI p3), some (vI p4), some (vI p5)], [vI p5, vR 111], σ5)) rfl ?_
    refine run_callV (m := 212) (as := [vR 111, vI p5]) (pc := 47) (ls := [some (vR 111), some (vI p1), some (vI p2), some (vI p3), some (vI p4), some (vI p5)]) (st' := []) (σ := σ5) hf rfl (fun _ h => (c_M_come h).mono (by decide)) (fun σ6 hf => ?_)
    refine run_seg (k := 2) (s' := (51, [some (vR 111), some (vI p1), some (vI p2), some (vI p3), some (vI p4), some (vI p5)], [vI (σ6 111 2)], σ6)) rfl ?_
    exact run_ret hf rfl
/-- BentPennyModel.end(I)Z -/
def f_M_end (p1 : Int) (σ : xSt) : Option (Int × xSt) :=
  xlet (upS σ 111 0 0) fun σ1 =>
  if p1 < 0 then (some (0, σ1))
  else (if σ1 111 2 < p1 then (some (0, σ1))
  else (xlet (upS σ1 111 2 p1) fun σ2 =>
  some (1, σ2)))
theorem c_M_end {p1 : Int} {σ : xSt} {r : Int × xSt} (hf : f_M_end p1 σ = some r) : Call (0 + 1) 214 [vR 111, vI p1] σ (tIW r).1 (tIW r).2 := by
  unfold f_M_end at hf
  refine call_of (own := 12) (rk := 2) (cd := kX12_end) (ls := [some (vR 111), some (vI p1)]) (rT := tIW) rfl rfl rfl rfl rfl ?_
  refine run_seg (k := 3) (s' := (5, [some (vR 111), some (vI p1)], [], upS σ 111 0 0)) rfl ?_
  refine run_let (fun σ1 => (5, [some (vR 111), some (vI p1)], [], σ1)) hf (fun σ1 hf => ?_)
  refine run_seg (k := 2) (s' := (if p1 < 0 then (17, [some (vR 111), some (vI p1)], [], σ1) else (9, [some (vR 111), some (vI p1)], [], σ1))) rfl ?_
  refine run_ite hf (fun _ hf => ?_) (fun _ hf => ?_)
  · refine run_seg (k := 1) (s' := (18, [some (vR 111), some (vI p1)], [vI 0], σ1)) rfl ?_
    exact run_ret hf rfl
  · refine run_seg (k := 4) (s' := (if σ1 111 2 < p1 then (17, [some (vR 111), some (vI p1)], [], σ1) else (19, [some (vR 111), some (vI p1)], [], σ1))) rfl ?_
    refine run_ite hf (fun _ hf => ?_) (fun _ hf => ?_)
    · refine run_seg (k := 1) (s' := (18, [some (vR 111), some (vI p1)], [vI 0], σ1)) rfl ?_
      exact run_ret hf rfl
    · refine run_seg (k := 3) (s' := (24, [some (vR 111), some (vI p1)], [], upS σ1 111 2 p1)) rfl ?_
      refine run_let (fun σ2 => (24, [some (vR 111), some (vI p1)], [], σ2)) hf (fun σ2 hf => ?_)
      refine run_seg (k := 1) (s' := (25, [some (vR 111), some (vI p1)], [vI 1], σ2)) rfl ?_
      exact run_ret hf rfl
/-- BentPennyModel.gather()I -/
def f_M_gather (σ : xSt) : Option (Int × xSt) :=
  xlet (σ 111 2) fun x1 =>
  xlet (upS σ 111 2 0) fun σ2 =>
  some (x1, σ2)
theorem c_M_gather {σ : xSt} {r : Int × xSt} (hf : f_M_gather σ = some r) : Call (0 + 1) 215 [vR 111] σ (tIW r).1 (tIW r).2 := by
  unfold f_M_gather at hf
  refine call_of (own := 12) (rk := 1) (cd := kX12_gather) (ls := [some (vR 111), none]) (rT := tIW) rfl rfl rfl rfl rfl ?_
  refine run_seg (k := 3) (s' := (5, [some (vR 111), some (vI (σ 111 2))], [], σ)) rfl ?_
  refine run_let (fun x1 => (5, [some (vR 111), some (vI x1)], [], σ)) hf (fun x1 hf => ?_)
  refine run_seg (k := 3) (s' := (10, [some (vR 111), some (vI x1)], [], upS σ 111 2 0)) rfl ?_
  refine run_let (fun σ2 => (10, [some (vR 111), some (vI x1)], [], σ2)) hf (fun σ2 hf => ?_)
  refine run_seg (k := 1) (s' := (11, [some (vR 111), some (vI x1)], [vI x1], σ2)) rfl ?_
  exact run_ret hf rfl
/-- BentPennyModel.tapeAt(I)I -/
def f_M_tapeAt (p1 : Int) (σ : xSt) : Option (Int) :=
  if p1 < σ 111 3 then (if 0 ≤ p1 ∧ p1 < 640 then (
  some (σ 112 p1.toNat)) else none)
  else (some 0)
theorem c_M_tapeAt {p1 : Int} {σ : xSt} {r : Int} (hf : f_M_tapeAt p1 σ = some r) : Call (0 + 1) 220 [vR 111, vI p1] σ ((tI σ) r).1 ((tI σ) r).2 := by
  unfold f_M_tapeAt at hf
  refine call_of (own := 12) (rk := 1) (cd := kX12_tapeAt) (ls := [some (vR 111), some (vI p1)]) (rT := (tI σ)) rfl rfl rfl rfl rfl ?_
  refine run_seg (k := 4) (s' := (if p1 < σ 111 3 then (8, [some (vR 111), some (vI p1)], [], σ) else (17, [some (vR 111), some (vI p1)], [], σ))) rfl ?_
  refine run_ite hf (fun _ hf => ?_) (fun _ hf => ?_)
  · refine run_seg (k := 3) (s' := (13, [some (vR 111), some (vI p1)], [vI p1, vR 112], σ)) rfl ?_
    refine run_guard (s' := (14, [some (vR 111), some (vI p1)], [vI (σ 112 p1.toNat)], σ)) hf rfl (fun hf => ?_)
    refine run_seg (k := 1) (s' := (18, [some (vR 111), some (vI p1)], [vI (σ 112 p1.toNat)], σ)) rfl ?_
    exact run_ret hf rfl
  · refine run_seg (k := 1) (s' := (18, [some (vR 111), some (vI p1)], [vI 0], σ)) rfl ?_
    exact run_ret hf rfl
/-- BentPennyModel.isLetter(I)Z -/
def f_M_isLetter (p0 : Int) (σ : xSt) : Option (Int) :=
  if p0 < 97 then (some 0)
  else (if 122 < p0 then (some 0)
  else (some 1))
theorem c_M_isLetter {p0 : Int} {σ : xSt} {r : Int} (hf : f_M_isLetter p0 σ = some r) : Call (0 + 1) 222 [vI p0] σ ((tI σ) r).1 ((tI σ) r).2 := by
  unfold f_M_isLetter at hf
  refine call_of (own := 12) (rk := 2) (cd := kX12_isLetter) (ls := [some (vI p0)]) (rT := (tI σ)) rfl rfl rfl rfl rfl ?_
  refine run_seg (k := 3) (s' := (if p0 < 97 then (16, [some (vI p0)], [], σ) else (6, [some (vI p0)], [], σ))) rfl ?_
  refine run_ite hf (fun _ hf => ?_) (fun _ hf => ?_)
  · refine run_seg (k := 1) (s' := (17, [some (vI p0)], [vI 0], σ)) rfl ?_
    exact run_ret hf rfl
  · refine run_seg (k := 3) (s' := (if 122 < p0 then (16, [some (vI p0)], [], σ) else (12, [some (vI p0)], [], σ))) rfl ?_
    refine run_ite hf (fun _ hf => ?_) (fun _ hf => ?_)
    · refine run_seg (k := 1) (s' := (17, [some (vI p0)], [vI 0], σ)) rfl ?_
      exact run_ret hf rfl
    · refine run_seg (k := 2) (s' := (17, [some (vI p0)], [vI 1], σ)) rfl ?_
      exact run_ret hf rfl
/-- BentPennyModel.isDigit(I)Z -/
def f_M_isDigit (p0 : Int) (σ : xSt) : Option (Int) :=
  if p0 < 48 then (some 0)
  else (if 57 < p0 then (some 0)
  else (some 1))
theorem c_M_isDigit {p0 : Int} {σ : xSt} {r : Int} (hf : f_M_isDigit p0 σ = some r) : Call (0 + 1) 221 [vI p0] σ ((tI σ) r).1 ((tI σ) r).2 := by
  unfold f_M_isDigit at hf
  refine call_of (own := 12) (rk := 2) (cd := kX12_isDigit) (ls := [some (vI p0)]) (rT := (tI σ)) rfl rfl rfl rfl rfl ?_
  refine run_seg (k := 3) (s' := (if p0 < 48 then (16, [some (vI p0)], [], σ) else (6, [some (vI p0)], [], σ))) rfl ?_
  refine run_ite hf (fun _ hf => ?_) (fun _ hf => ?_)
  · refine run_seg (k := 1) (s' := (17, [some (vI p0)], [vI 0], σ)) rfl ?_
    exact run_ret hf rfl
  · refine run_seg (k := 3) (s' := (if 57 < p0 then (16, [some (vI p0)], [], σ) else (12, [some (vI p0)], [], σ))) rfl ?_
    refine run_ite hf (fun _ hf => ?_) (fun _ hf => ?_)
    · refine run_seg (k := 1) (s' := (17, [some (vI p0)], [vI 0], σ)) rfl ?_
      exact run_ret hf rfl
    · refine run_seg (k := 2) (s' := (17, [some (vI p0)], [vI 1], σ)) rfl ?_
      exact run_ret hf rfl
def f_M_go_39 (k0 : (xSt → Option (xSt))) (σ : xSt) : Option (xSt) :=
  xlet (upS σ 111 5 (w32 ((σ 111 5) + 1))) fun σ1 =>
  k0 σ1
def f_M_go_185 (l1 : Int) (s0 : Int) (σ : xSt) : Option (xSt) :=
  xlet (upS σ 111 7 s0) fun σ9 =>
  xlet (upS σ9 111 9 l1) fun σ10 =>
  xlet (upS σ10 111 5 (w32 ((σ10 111 5) + 1))) fun σ11 =>
  some σ11
def f_M_go_180 (l1 : Int) (σ : xSt) : Option (xSt) :=
  f_M_go_185 l1 4 σ
def f_M_go_343 (k221 : (Int → Int → xSt → Option (xSt))) (l2 : Int) (l3 : Int) (σ : xSt) : Option (xSt) :=
  xlet (upS σ 111 5 (w32 ((σ 111 5) + 1))) fun σ24 =>
  k221 l2 l3 σ24
def f_M_go_313 (k221 : (Int → Int → xSt → Option (xSt))) (l2 : Int) (l3 : Int) (l4 : Int) (σ : xSt) : Option (xSt) :=
  if w32 ((σ 111 5) - (σ 111 6)) < 3 then (xlet (upS σ 111 8 (w32 ((w32 ((w32 (10 * (σ 111 8))) + l4)) - 48))) fun σ23 =>
  f_M_go_343 (k221) l2 l3 σ23)
  else (f_M_go_343 (k221) l2 l3 σ)
def f_M_go_278 (k221 : (Int → Int → xSt → Option (xSt))) (l2 : Int) (l4 : Int) (s0 : Int) (σ : xSt) : Option (xSt) :=
  if w32 ((σ 111 5) - (σ 111 6)) < 6 then (xlet (upS σ 111 12 (w64 ((w64 ((w64 (27 * (σ 111 12))) + l4)) - 96))) fun σ22 =>
  f_M_go_313 (k221) l2 s0 l4 σ22)
  else (f_M_go_313 (k221) l2 s0 l4 σ)
def f_M_go_277 (k221 : (Int → Int → xSt → Option (xSt))) (l2 : Int) (l4 : Int) (σ : xSt) : Option (xSt) :=
  f_M_go_278 (k221) l2 l4 0 σ
def f_M_go_249 (k221 : (Int → Int → xSt → Option (xSt))) (l2 : Int) (l3 : Int) (σ : xSt) : Option (xSt) :=
  if 0 ≤ σ 111 5 ∧ σ 111 5 < 640 then (
  xlet (σ 112 (σ 111 5).toNat) fun x19 =>
  if l3 = 0 then (f_M_go_277 (k221) l2 x19 σ)
  else (xbR (f_M_isLetter x19 σ) fun r20 =>
  if r20 = l2 then (f_M_go_278 (k221) l2 x19 1 σ)
  else (f_M_go_277 (k221) l2 x19 σ))) else none
def f_M_go_396 (s0 : Int) (σ : xSt) : Option (xSt) :=
  xlet (upS σ 111 7 s0) fun σ21 =>
  some σ21
def f_M_go_383 (σ : xSt) : Option (xSt) :=
  f_M_go_396 1 σ
def f_M_go_380 (l2 : Int) (s0 : Int) (s1 : Int) (σ : xSt) : Option (xSt) :=
  if s0 < s1 then (f_M_go_383 σ)
  else (if l2 = 0 then (f_M_go_396 3 σ)
  else (f_M_go_396 2 σ))
def f_M_go_221 : Nat → Int → Int → xSt → Option (xSt)
  | 0, _, _, _ => none
  | n + 1, l2, l3, σ =>
    xbR (f_M_tapeAt (σ 111 5) σ) fun r15 =>
    xbR (f_M_isLetter r15 σ) fun r16 =>
    if r16 = 0 then (xbR (f_M_tapeAt (σ 111 5) σ) fun r17 =>
    xbR (f_M_isDigit r17 σ) fun r18 =>
    if r18 = 0 then (if l3 = 0 then (f_M_go_383 σ)
    else (if l2 = 0 then (f_M_go_380 l2 3 (w32 ((σ 111 5) - (σ 111 6))) σ)
    else (f_M_go_380 l2 6 (w32 ((σ 111 5) - (σ 111 6))) σ)))
    else (f_M_go_249 (fun z0 z1 sz => f_M_go_221 n z0 z1 sz) l2 l3 σ))
    else (f_M_go_249 (fun z0 z1 sz => f_M_go_221 n z0 z1 sz) l2 l3 σ)
def f_M_go_204 (l1 : Int) (σ : xSt) : Option (xSt) :=
  xbR (f_M_isLetter l1 σ) fun r12 =>
  xlet (upS σ 111 12 0) fun σ13 =>
  xlet (upS σ13 111 8 0) fun σ14 =>
  f_M_go_221 1000000 r12 1 σ14
def f_M_go_96 (σ : xSt) : Option (xSt) :=
  if σ 111 5 < σ 111 3 then (if 0 ≤ σ 111 5 ∧ σ 111 5 < 640 then (
  xlet (σ 112 (σ 111 5).toNat) fun x5 =>
  xbR (f_M_isLetter x5 σ) fun r6 =>
  if r6 = 0 then (xbR (f_M_isDigit x5 σ) fun r7 =>
  if r7 = 0 then (if x5 = 59 then (f_M_go_180 x5 σ)
  else (if x5 = 58 then (f_M_go_180 x5 σ)
  else (if x5 = 60 then (f_M_go_180 x5 σ)
  else (if x5 = 61 then (f_M_go_180 x5 σ)
  else (if x5 = 62 then (f_M_go_180 x5 σ)
  else (if x5 = 40 then (f_M_go_180 x5 σ)
  else (if x5 = 41 then (f_M_go_180 x5 σ)
  else (f_M_go_185 x5 1 σ))))))))
  else (f_M_go_204 x5 σ))
  else (f_M_go_204 x5 σ)) else none)
  else (xlet (upS σ 111 7 0) fun σ8 =>
  some σ8)
def f_M_go_52 (σ : xSt) : Option (xSt) :=
  xlet (upS σ 111 6 (σ 111 5)) fun σ2 =>
  if σ2 111 4 < σ2 111 3 then (if σ2 111 6 < σ2 111 4 then (f_M_go_96 σ2)
  else (xlet (upS σ2 111 6 (σ2 111 4)) fun σ3 =>
  xlet (upS σ3 111 7 1) fun σ4 =>
  some σ4))
  else (f_M_go_96 σ2)
def f_M_go_0 : Nat → xSt → Option (xSt)
  | 0, _ => none
  | n + 1, σ =>
    if σ 111 5 < σ 111 3 then (if 0 ≤ σ 111 5 ∧ σ 111 5 < 640 then (
    if σ 112 (σ 111 5).toNat = 32 then (f_M_go_39 (fun  sz => f_M_go_0 n sz) σ)
    else (if 0 ≤ σ 111 5 ∧ σ 111 5 < 640 then (
    if σ 112 (σ 111 5).toNat = 10 then (f_M_go_39 (fun  sz => f_M_go_0 n sz) σ)
    else (f_M_go_52 σ)) else none)) else none)
    else (f_M_go_52 σ)
/-- BentPennyModel.go()V -/
def f_M_go (σ : xSt) : Option (xSt) :=
  f_M_go_0 1000000 σ
theorem r_M_go_39 {k0 : (xSt → Option (xSt))} (hk0 : ∀ {g1 : Option xV} {g2 : Option xV} {g3 : Option xV} {g4 : Option xV} {σ : xSt} {r : xSt}, k0 σ = some r → Run 1 12 0 kX12_go (0, [some (vR 111), g1, g2, g3, g4], [], σ) (tV r)) {g1 : Option xV} {g2 : Option xV} {g3 : Option xV} {g4 : Option xV} {σ : xSt} {r : xSt} (hf : f_M_go_39 k0 σ = some r) : Run 1 12 0 kX12_go (39, [some (vR 111), g1, g2, g3, g4], [], σ) (tV r) := by
  unfold f_M_go_39 at hf
  refine run_seg (k := 6) (s' := (49, [some (vR 111), g1, g2, g3, g4], [], upS σ 111 5 (w32 ((σ 111 5) + 1)))) rfl ?_
  refine run_let (fun σ1 => (49, [some (vR 111), g1, g2, g3, g4], [], σ1)) hf (fun σ1 hf => ?_)
  refine run_seg (k := 1) (s' := (0, [some (vR 111), g1, g2, g3, g4], [], σ1)) rfl ?_
  exact hk0 hf
theorem r_M_go_185 {l1 : Int} {s0 : Int} {g2 : Option xV} {g3 : Option xV} {g4 : Option xV} {σ : xSt} {r : xSt} (hf : f_M_go_185 l1 s0 σ = some r) : Run 1 12 0 kX12_go (185, [some (vR 111), some (vI l1), g2, g3, g4], [vI s0, vR 111], σ) (tV r) := by
  unfold f_M_go_185 at hf
  refine run_seg (k := 1) (s' := (188, [some (vR 111), some (vI l1), g2, g3, g4], [], upS σ 111 7 s0)) rfl ?_
  refine run_let (fun σ9 => (188, [some (vR 111), some (vI l1), g2, g3, g4], [], σ9)) hf (fun σ9 hf => ?_)
  refine run_seg (k := 3) (s' := (193, [some (vR 111), some (vI l1), g2, g3, g4], [], upS σ9 111 9 l1)) rfl ?_
  refine run_let (fun σ10 => (193, [some (vR 111), some (vI l1), g2, g3, g4], [], σ10)) hf (fun σ10 hf => ?_)
  refine run_seg (k := 6) (s' := (203, [some (vR 111), some (vI l1), g2, g3, g4], [], upS σ10 111 5 (w32 ((σ10 111 5) + 1)))) rfl ?_
  refine run_let (fun σ11 => (203, [some (vR 111), some (vI l1), g2, g3, g4], [], σ11)) hf (fun σ11 hf => ?_)
  exact run_ret hf rfl
theorem r_M_go_180 {l1 : Int} {g2 : Option xV} {g3 : Option xV} {g4 : Option xV} {σ : xSt} {r : xSt} (hf : f_M_go_180 l1 σ = some r) : Run 1 12 0 kX12_go (180, [some (vR 111), some (vI l1), g2, g3, g4], [vR 111], σ) (tV r) := by
  unfold f_M_go_180 at hf
  refine run_seg (k := 2) (s' := (185, [some (vR 111), some (vI l1), g2, g3, g4], [vI 4, vR 111], σ)) rfl ?_
  exact r_M_go_185 hf
theorem r_M_go_343 {k221 : (Int → Int → xSt → Option (xSt))} (hk221 : ∀ {l2 : Int} {l3 : Int} {g1 : Option xV} {g4 : Option xV} {σ : xSt} {r : xSt}, k221 l2 l3 σ = some r → Run 1 12 0 kX12_go (221, [some (vR 111), g1, some (vI l2), some (vI l3), g4], [], σ) (tV r)) {l2 : Int} {l3 : Int} {g1 : Option xV} {g4 : Option xV} {σ : xSt} {r : xSt} (hf : f_M_go_343 k221 l2 l3 σ = some r) : Run 1 12 0 kX12_go (343, [some (vR 111), g1, some (vI l2), some (vI l3), g4], [], σ) (tV r) := by
  unfold f_M_go_343 at hf
  refine run_seg (k := 6) (s' := (353, [some (vR 111), g1, some (vI l2), some (vI l3), g4], [], upS σ 111 5 (w32 ((σ 111 5) + 1)))) rfl ?_
  refine run_let (fun σ24 => (353, [some (vR 111), g1, some (vI l2), some (vI l3), g4], [], σ24)) hf (fun σ24 hf => ?_)
  refine run_seg (k := 1) (s' := (221, [some (vR 111), g1, some (vI l2), some (vI l3), g4], [], σ24)) rfl ?_
  exact hk221 hf
theorem r_M_go_313 {k221 : (Int → Int → xSt → Option (xSt))} (hk221 : ∀ {l2 : Int} {l3 : Int} {g1 : Option xV} {g4 : Option xV} {σ : xSt} {r : xSt}, k221 l2 l3 σ = some r → Run 1 12 0 kX12_go (221, [some (vR 111), g1, some (vI l2), some (vI l3), g4], [], σ) (tV r)) {l2 : Int} {l3 : Int} {l4 : Int} {g1 : Option xV} {σ : xSt} {r : xSt} (hf : f_M_go_313 k221 l2 l3 l4 σ = some r) : Run 1 12 0 kX12_go (313, [some (vR 111), g1, some (vI l2), some (vI l3), some (vI l4)], [], σ) (tV r) := by
  unfold f_M_go_313 at hf
  refine run_seg (k := 7) (s' := (if w32 ((σ 111 5) - (σ 111 6)) < 3 then (326, [some (vR 111), g1, some (vI l2), some (vI l3), some (vI l4)], [], σ) else (343, [some (vR 111), g1, some (vI l2), some (vI l3), some (vI l4)], [], σ))) rfl ?_
  refine run_ite hf (fun _ hf => ?_) (fun _ hf => ?_)
  · refine run_seg (k := 10) (s' := (343, [some (vR 111), g1, some (vI l2), some (vI l3), some (vI l4)], [], upS σ 111 8 (w32 ((w32 ((w32 (10 * (σ 111 8))) + l4)) - 48)))) rfl ?_
    refine run_let (fun σ23 => (343, [some (vR 111), g1, some (vI l2), some (vI l3), some (vI l4)], [], σ23)) hf (fun σ23 hf => ?_)
    exact r_M_go_343 (hk221) hf
  · exact r_M_go_343 (hk221) hf
theorem r_M_go_278 {k221 : (Int → Int → xSt → Option (xSt))} (hk221 : ∀ {l2 : Int} {l3 : Int} {g1 : Option xV} {g4 : Option xV} {σ : xSt} {r : xSt}, k221 l2 l3 σ = some r → Run 1 12 0 kX12_go (221, [some (vR 111), g1, some (vI l2), some (vI l3), g4], [], σ) (tV r)) {l2 : Int} {l4 : Int} {s0 : Int} {g1 : Option xV} {g3 : Option xV} {σ : xSt} {r : xSt} (hf : f_M_go_278 k221 l2 l4 s0 σ = some r) : Run 1 12 0 kX12_go (278, [some (vR 111), g1, some (vI l2), g3, some (vI l4)], [vI s0], σ) (tV r) := by
  unfold f_M_go_278 at hf
  refine run_seg (k := 8) (s' := (if w32 ((σ 111 5) - (σ 111 6)) < 6 then (293, [some (vR 111), g1, some (vI l2), some (vI s0), some (vI l4)], [], σ) else (313, [some (vR 111), g1, some (vI l2), some (vI s0), some (vI l4)], [], σ))) rfl ?_
  refine run_ite hf (fun _ hf => ?_) (fun _ hf => ?_)
  · refine run_seg (k := 11) (s' := (313, [some (vR 111), g1, some (vI l2), some (vI s0), some (vI l4)], [], upS σ 111 12 (w64 ((w64 ((w64 (27 * (σ 111 12))) + l4)) - 96)))) rfl ?_
    refine run_let (fun σ22 => (313, [some (vR 111), g1, some (vI l2), some (vI s0), some (vI l4)], [], σ22)) hf (fun σ22 hf => ?_)
    exact r_M_go_313 (hk221) hf
  · exact r_M_go_313 (hk221) hf
theorem r_M_go_277 {k221 : (Int → Int → xSt → Option (xSt))} (hk221 : ∀ {l2 : Int} {l3 : Int} {g1 : Option xV} {g4 : Option xV} {σ : xSt} {r : xSt}, k221 l2 l3 σ = some r → Run 1 12 0 kX12_go (221, [some (vR 111), g1, some (vI l2), some (vI l3), g4], [], σ) (tV r)) {l2 : Int} {l4 : Int} {g1 : Option xV} {g3 : Option xV} {σ : xSt} {r : xSt} (hf : f_M_go_277 k221 l2 l4 σ = some r) : Run 1 12 0 kX12_go (277, [some (vR 111), g1, some (vI l2), g3, some (vI l4)], [], σ) (tV r) := by
  unfold f_M_go_277 at hf
  refine run_seg (k := 1) (s' := (278, [some (vR 111), g1, some (vI l2), g3, some (vI l4)], [vI 0], σ)) rfl ?_
  exact r_M_go_278 (hk221) hf
theorem r_M_go_249 {k221 : (Int → Int → xSt → Option (xSt))} (hk221 : ∀ {l2 : Int} {l3 : Int} {g1 : Option xV} {g4 : Option xV} {σ : xSt} {r : xSt}, k221 l2 l3 σ = some r → Run 1 12 0 kX12_go (221, [some (vR 111), g1, some (vI l2), some (vI l3), g4], [], σ) (tV r)) {l2 : Int} {l3 : Int} {g1 : Option xV} {g4 : Option xV} {σ : xSt} {r : xSt} (hf : f_M_go_249 k221 l2 l3 σ = some r) : Run 1 12 0 kX12_go (249, [some (vR 111), g1, some (vI l2), some (vI l3), g4], [], σ) (tV r) := by
  unfold f_M_go_249 at hf
  refine run_seg (k := 4) (s' := (257, [some (vR 111), g1, some (vI l2), some (vI l3), g4], [vI (σ 111 5), vR 112], σ)) rfl ?_
  refine run_guard (s' := (258, [some (vR 111), g1, some (vI l2), some (vI l3), g4], [vI (σ 112 (σ 111 5).toNat)], σ)) hf rfl (fun hf => ?_)
  refine run_seg (k := 1) (s' := (260, [some (vR 111), g1, some (vI l2), some (vI l3), some (vI (σ 112 (σ 111 5).toNat))], [], σ)) rfl ?_
  refine run_let (fun x19 => (260, [some (vR 111), g1, some (vI l2), some (vI l3), some (vI x19)], [], σ)) hf (fun x19 hf => ?_)
  refine run_seg (k := 2) (s' := (if l3 = 0 then (277, [some (vR 111), g1, some (vI l2), some (vI l3), some (vI x19)], [], σ) else (264, [some (vR 111), g1, some (vI l2), some (vI l3), some (vI x19)], [], σ))) rfl ?_
  refine run_ite hf (fun _ hf => ?_) (fun _ hf => ?_)
  · exact r_M_go_277 (hk221) hf
  · refine run_seg (k := 1) (s' := (266, [some (vR 111), g1, some (vI l2), some (vI l3), some (vI x19)], [vI x19], σ)) rfl ?_
    refine run_callN (w := fun a => some (vI a)) (m := 222) (as := [vI x19]) (pc := 269) (ls := [some (vR 111), g1, some (vI l2), some (vI l3), some (vI x19)]) (st' := []) (σ := σ) hf rfl (fun _ h => (c_M_isLetter h).mono (by decide)) (fun r20 hf => ?_)
    refine run_seg (k := 2) (s' := (if r20 = l2 then (273, [some (vR 111), g1, some (vI l2), some (vI l3), some (vI x19)], [], σ) else (277, [some (vR 111), g1, some (vI l2), some (vI l3), some (vI x19)], [], σ))) rfl ?_
    refine run_ite hf (fun _ hf => ?_) (fun _ hf => ?_)
    · refine run_seg (k := 2) (s' := (278, [some (vR 111), g1, some (vI l2), some (vI l3), some (vI x19)], [vI 1], σ)) rfl ?_
      exact r_M_go_278 (hk221) hf
    · exact r_M_go_277 (hk221) hf
theorem r_M_go_396 {s0 : Int} {g0 : Option xV} {g1 : Option xV} {g2 : Option xV} {g3 : Option xV} {g4 : Option xV} {σ : xSt} {r : xSt} (hf : f_M_go_396 s0 σ = some r) : Run 1 12 0 kX12_go (396, [g0, g1, g2, g3, g4], [vI s0, vR 111], σ) (tV r) := by
  unfold f_M_go_396 at hf
  refine run_seg (k := 1) (s' := (399, [g0, g1, g2, g3, g4], [], upS σ 111 7 s0)) rfl ?_
  refine run_let (fun σ21 => (399, [g0, g1, g2, g3, g4], [], σ21)) hf (fun σ21 hf => ?_)
  exact run_ret hf rfl
theorem r_M_go_383 {g0 : Option xV} {g1 : Option xV} {g2 : Option xV} {g3 : Option xV} {g4 : Option xV} {σ : xSt} {r : xSt} (hf : f_M_go_383 σ = some r) : Run 1 12 0 kX12_go (383, [g0, g1, g2, g3, g4], [vR 111], σ) (tV r) := by
  unfold f_M_go_383 at hf
  refine run_seg (k := 2) (s' := (396, [g0, g1, g2, g3, g4], [vI 1, vR 111], σ)) rfl ?_
  exact r_M_go_396 hf
theorem r_M_go_380 {l2 : Int} {s0 : Int} {s1 : Int} {g0 : Option xV} {g1 : Option xV} {g3 : Option xV} {g4 : Option xV} {σ : xSt} {r : xSt} (hf : f_M_go_380 l2 s0 s1 σ = some r) : Run 1 12 0 kX12_go (380, [g0, g1, some (vI l2), g3, g4], [vI s0, vI s1, vR 111], σ) (tV r) := by
  unfold f_M_go_380 at hf
  refine run_seg (k := 1) (s' := (if s0 < s1 then (383, [g0, g1, some (vI l2), g3, g4], [vR 111], σ) else (387, [g0, g1, some (vI l2), g3, g4], [vR 111], σ))) rfl ?_
  refine run_ite hf (fun _ hf => ?_) (fun _ hf => ?_)
  · exact r_M_go_383 hf
  · refine run_seg (k := 2) (s' := (if l2 = 0 then (395, [g0, g1, some (vI l2), g3, g4], [vR 111], σ) else (391, [g0, g1, some (vI l2), g3, g4], [vR 111], σ))) rfl ?_
    refine run_ite hf (fun _ hf => ?_) (fun _ hf => ?_)
    · refine run_seg (k := 1) (s' := (396, [g0, g1, some (vI l2), g3, g4], [vI 3, vR 111], σ)) rfl ?_
      exact r_M_go_396 hf
    · refine run_seg (k := 2) (s' := (396, [g0, g1, some (vI l2), g3, g4], [vI 2, vR 111], σ)) rfl ?_
      exact r_M_go_396 hf
theorem r_M_go_221 : ∀ (n : Nat) {l2 : Int} {l3 : Int} {g1 : Option xV} {g4 : Option xV} {σ : xSt} {r : xSt}, f_M_go_221 n l2 l3 σ = some r → Run 1 12 0 kX12_go (221, [some (vR 111), g1, some (vI l2), some (vI l3), g4], [], σ) (tV r) := by
  intro n
  induction n with
  | zero =>
    intro _ _ _ _ _ _ h
    exact nomatch (show (none : Option (xSt)) = some _ from h)
  | succ n ih =>
    intro l2 l3 g1 g4 σ r hf
    unfold f_M_go_221 at hf
    refine run_seg (k := 3) (s' := (226, [some (vR 111), g1, some (vI l2), some (vI l3), g4], [vI (σ 111 5), vR 111], σ)) rfl ?_
    refine run_callN (w := fun a => some (vI a)) (m := 220) (as := [vR 111, vI (σ 111 5)]) (pc := 229) (ls := [some (vR 111), g1, some (vI l2), some (vI l3), g4]) (st' := []) (σ := σ) hf rfl (fun _ h => (c_M_tapeAt h).mono (by decide)) (fun r15 hf => ?_)
    refine run_callN (w := fun a => some (vI a)) (m := 222) (as := [vI r15]) (pc := 232) (ls := [some (vR 111), g1, some (vI l2), some (vI l3), g4]) (st' := []) (σ := σ) hf rfl (fun _ h => (c_M_isLetter h).mono (by decide)) (fun r16 hf => ?_)
    refine run_seg (k := 1) (s' := (if r16 = 0 then (235, [some (vR 111), g1, some (vI l2), some (vI l3), g4], [], σ) else (249, [some (vR 111), g1, some (vI l2), some (vI l3), g4], [], σ))) rfl ?_
    refine run_ite hf (fun _ hf => ?_) (fun _ hf => ?_)
    · refine run_seg (k := 3) (s' := (240, [some (vR 111), g1, some (vI l2), some (vI l3), g4], [vI (σ 111 5), vR 111], σ)) rfl ?_
      refine run_callN (w := fun a => some (vI a)) (m := 220) (as := [vR 111, vI (σ 111 5)]) (pc := 243) (ls := [some (vR 111), g1, some (vI l2), some (vI l3), g4]) (st' := []) (σ := σ) hf rfl (fun _ h => (c_M_tapeAt h).mono (by decide)) (fun r17 hf => ?_)
      refine run_callN (w := fun a => some (vI a)) (m := 221) (as := [vI r17]) (pc := 246) (ls := [some (vR 111), g1, some (vI l2), some (vI l3), g4]) (st' := []) (σ := σ) hf rfl (fun _ h => (c_M_isDigit h).mono (by decide)) (fun r18 hf => ?_)
      refine run_seg (k := 1) (s' := (if r18 = 0 then (356, [some (vR 111), g1, some (vI l2), some (vI l3), g4], [], σ) else (249, [some (vR 111), g1, some (vI l2), some (vI l3), g4], [], σ))) rfl ?_
      refine run_ite hf (fun _ hf => ?_) (fun _ hf => ?_)
      · refine run_seg (k := 3) (s' := (if l3 = 0 then (383, [some (vR 111), g1, some (vI l2), some (vI l3), g4], [vR 111], σ) else (361, [some (vR 111), g1, some (vI l2), some (vI l3), g4], [vR 111], σ))) rfl ?_
        refine run_ite hf (fun _ hf => ?_) (fun _ hf => ?_)
        · exact r_M_go_383 hf
        · refine run_seg (k := 7) (s' := (if l2 = 0 then (379, [some (vR 111), g1, some (vI l2), some (vI l3), g4], [vI (w32 ((σ 111 5) - (σ 111 6))), vR 111], σ) else (374, [some (vR 111), g1, some (vI l2), some (vI l3), g4], [vI (w32 ((σ 111 5) - (σ 111 6))), vR 111], σ))) rfl ?_
          refine run_ite hf (fun _ hf => ?_) (fun _ hf => ?_)
          · refine run_seg (k := 1) (s' := (380, [some (vR 111), g1, some (vI l2), some (vI l3), g4], [vI 3, vI (w32 ((σ 111 5) - (σ 111 6))), vR 111], σ)) rfl ?_
            exact r_M_go_380 hf
          · refine run_seg (k := 2) (s' := (380, [some (vR 111), g1, some (vI l2), some (vI l3), g4], [vI 6, vI (w32 ((σ 111 5) - (σ 111 6))), vR 111], σ)) rfl ?_
            exact r_M_go_380 hf
      · exact r_M_go_249 (fun h => ih h) hf
    · exact r_M_go_249 (fun h => ih h) hf
theorem r_M_go_204 {l1 : Int} {g2 : Option xV} {g3 : Option xV} {g4 : Option xV} {σ : xSt} {r : xSt} (hf : f_M_go_204 l1 σ = some r) : Run 1 12 0 kX12_go (204, [some (vR 111), some (vI l1), g2, g3, g4], [], σ) (tV r) := by
  unfold f_M_go_204 at hf
  refine run_seg (k := 1) (s' := (205, [some (vR 111), some (vI l1), g2, g3, g4], [vI l1], σ)) rfl ?_
  refine run_callN (w := fun a => some (vI a)) (m := 222) (as := [vI l1]) (pc := 208) (ls := [some (vR 111), some (vI l1), g2, g3, g4]) (st' := []) (σ := σ) hf rfl (fun _ h => (c_M_isLetter h).mono (by decide)) (fun r12 hf => ?_)
  refine run_seg (k := 6) (s' := (216, [some (vR 111), some (vI l1), some (vI r12), some (vI 1), g4], [], upS σ 111 12 0)) rfl ?_
  refine run_let (fun σ13 => (216, [some (vR 111), some (vI l1), some (vI r12), some (vI 1), g4], [], σ13)) hf (fun σ13 hf => ?_)
  refine run_seg (k := 3) (s' := (221, [some (vR 111), some (vI l1), some (vI r12), some (vI 1), g4], [], upS σ13 111 8 0)) rfl ?_
  refine run_let (fun σ14 => (221, [some (vR 111), some (vI l1), some (vI r12), some (vI 1), g4], [], σ14)) hf (fun σ14 hf => ?_)
  exact r_M_go_221 1000000 hf
theorem r_M_go_96 {g1 : Option xV} {g2 : Option xV} {g3 : Option xV} {g4 : Option xV} {σ : xSt} {r : xSt} (hf : f_M_go_96 σ = some r) : Run 1 12 0 kX12_go (96, [some (vR 111), g1, g2, g3, g4], [], σ) (tV r) := by
  unfold f_M_go_96 at hf
  refine run_seg (k := 5) (s' := (if σ 111 5 < σ 111 3 then (113, [some (vR 111), g1, g2, g3, g4], [], σ) else (107, [some (vR 111), g1, g2, g3, g4], [], σ))) rfl ?_
  refine run_ite hf (fun _ hf => ?_) (fun _ hf => ?_)
  · refine run_seg (k := 4) (s' := (121, [some (vR 111), g1, g2, g3, g4], [vI (σ 111 5), vR 112], σ)) rfl ?_
    refine run_guard (s' := (122, [some (vR 111), g1, g2, g3, g4], [vI (σ 112 (σ 111 5).toNat)], σ)) hf rfl (fun hf => ?_)
    refine run_seg (k := 1) (s' := (123, [some (vR 111), some (vI (σ 112 (σ 111 5).toNat)), g2, g3, g4], [], σ)) rfl ?_
    refine run_let (fun x5 => (123, [some (vR 111), some (vI x5), g2, g3, g4], [], σ)) hf (fun x5 hf => ?_)
    refine run_seg (k := 1) (s' := (124, [some (vR 111), some (vI x5), g2, g3, g4], [vI x5], σ)) rfl ?_
    refine run_callN (w := fun a => some (vI a)) (m := 222) (as := [vI x5]) (pc := 127) (ls := [some (vR 111), some (vI x5), g2, g3, g4]) (st' := []) (σ := σ) hf rfl (fun _ h => (c_M_isLetter h).mono (by decide)) (fun r6 hf => ?_)
    refine run_seg (k := 1) (s' := (if r6 = 0 then (130, [some (vR 111), some (vI x5), g2, g3, g4], [], σ) else (204, [some (vR 111), some (vI x5), g2, g3, g4], [], σ))) rfl ?_
    refine run_ite hf (fun _ hf => ?_) (fun _ hf => ?_)
    · refine run_seg (k := 1) (s' := (131, [some (vR 111), some (vI x5), g2, g3, g4], [vI x5], σ)) rfl ?_
      refine run_callN (w := fun a => some (vI a)) (m := 221) (as := [vI x5]) (pc := 134) (ls := [some (vR 111), some (vI x5), g2, g3, g4]) (st' := []) (σ := σ) hf rfl (fun _ h => (c_M_isDigit h).mono (by decide)) (fun r7 hf => ?_)
      refine run_seg (k := 1) (s' := (if r7 = 0 then (137, [some (vR 111), some (vI x5), g2, g3, g4], [], σ) else (204, [some (vR 111), some (vI x5), g2, g3, g4], [], σ))) rfl ?_
      refine run_ite hf (fun _ hf => ?_) (fun _ hf => ?_)
      · refine run_seg (k := 4) (s' := (if x5 = 59 then (180, [some (vR 111), some (vI x5), g2, g3, g4], [vR 111], σ) else (144, [some (vR 111), some (vI x5), g2, g3, g4], [vR 111], σ))) rfl ?_
        refine run_ite hf (fun _ hf => ?_) (fun _ hf => ?_)
        · exact r_M_go_180 hf
        · refine run_seg (k := 3) (s' := (if x5 = 58 then (180, [some (vR 111), some (vI x5), g2, g3, g4], [vR 111], σ) else (150, [some (vR 111), some (vI x5), g2, g3, g4], [vR 111], σ))) rfl ?_
          refine run_ite hf (fun _ hf => ?_) (fun _ hf => ?_)
          · exact r_M_go_180 hf
          · refine run_seg (k := 3) (s' := (if x5 = 60 then (180, [some (vR 111), some (vI x5), g2, g3, g4], [vR 111], σ) else (156, [some (vR 111), some (vI x5), g2, g3, g4], [vR 111], σ))) rfl ?_
            refine run_ite hf (fun _ hf => ?_) (fun _ hf => ?_)
            · exact r_M_go_180 hf
            · refine run_seg (k := 3) (s' := (if x5 = 61 then (180, [some (vR 111), some (vI x5), g2, g3, g4], [vR 111], σ) else (162, [some (vR 111), some (vI x5), g2, g3, g4], [vR 111], σ))) rfl ?_
              refine run_ite hf (fun _ hf => ?_) (fun _ hf => ?_)
              · exact r_M_go_180 hf
              · refine run_seg (k := 3) (s' := (if x5 = 62 then (180, [some (vR 111), some (vI x5), g2, g3, g4], [vR 111], σ) else (168, [some (vR 111), some (vI x5), g2, g3, g4], [vR 111], σ))) rfl ?_
                refine run_ite hf (fun _ hf => ?_) (fun _ hf => ?_)
                · exact r_M_go_180 hf
                · refine run_seg (k := 3) (s' := (if x5 = 40 then (180, [some (vR 111), some (vI x5), g2, g3, g4], [vR 111], σ) else (174, [some (vR 111), some (vI x5), g2, g3, g4], [vR 111], σ))) rfl ?_
                  refine run_ite hf (fun _ hf => ?_) (fun _ hf => ?_)
                  · exact r_M_go_180 hf
                  · refine run_seg (k := 3) (s' := (if x5 = 41 then (180, [some (vR 111), some (vI x5), g2, g3, g4], [vR 111], σ) else (184, [some (vR 111), some (vI x5), g2, g3, g4], [vR 111], σ))) rfl ?_
                    refine run_ite hf (fun _ hf => ?_) (fun _ hf => ?_)
                    · exact r_M_go_180 hf
                    · refine run_seg (k := 1) (s' := (185, [some (vR 111), some (vI x5), g2, g3, g4], [vI 1, vR 111], σ)) rfl ?_
                      exact r_M_go_185 hf
      · exact r_M_go_204 hf
    · exact r_M_go_204 hf
  · refine run_seg (k := 3) (s' := (112, [some (vR 111), g1, g2, g3, g4], [], upS σ 111 7 0)) rfl ?_
    refine run_let (fun σ8 => (112, [some (vR 111), g1, g2, g3, g4], [], σ8)) hf (fun σ8 hf => ?_)
    exact run_ret hf rfl
theorem r_M_go_52 {g1 : Option xV} {g2 : Option xV} {g3 : Option xV} {g4 : Option xV} {σ : xSt} {r : xSt} (hf : f_M_go_52 σ = some r) : Run 1 12 0 kX12_go (52, [some (vR 111), g1, g2, g3, g4], [], σ) (tV r) := by
  unfold f_M_go_52 at hf
  refine run_seg (k := 4) (s' := (60, [some (vR 111), g1, g2, g3, g4], [], upS σ 111 6 (σ 111 5))) rfl ?_
  refine run_let (fun σ2 => (60, [some (vR 111), g1, g2, g3, g4], [], σ2)) hf (fun σ2 hf => ?_)
  refine run_seg (k := 5) (s' := (if σ2 111 4 < σ2 111 3 then (71, [some (vR 111), g1, g2, g3, g4], [], σ2) else (96, [some (vR 111), g1, g2, g3, g4], [], σ2))) rfl ?_
  refine run_ite hf (fun _ hf => ?_) (fun _ hf => ?_)
  · refine run_seg (k := 5) (s' := (if σ2 111 6 < σ2 111 4 then (96, [some (vR 111), g1, g2, g3, g4], [], σ2) else (82, [some (vR 111), g1, g2, g3, g4], [], σ2))) rfl ?_
    refine run_ite hf (fun _ hf => ?_) (fun _ hf => ?_)
    · exact r_M_go_96 hf
    · refine run_seg (k := 4) (s' := (90, [some (vR 111), g1, g2, g3, g4], [], upS σ2 111 6 (σ2 111 4))) rfl ?_
      refine run_let (fun σ3 => (90, [some (vR 111), g1, g2, g3, g4], [], σ3)) hf (fun σ3 hf => ?_)
      refine run_seg (k := 3) (s' := (95, [some (vR 111), g1, g2, g3, g4], [], upS σ3 111 7 1)) rfl ?_
      refine run_let (fun σ4 => (95, [some (vR 111), g1, g2, g3, g4], [], σ4)) hf (fun σ4 hf => ?_)
      exact run_ret hf rfl
  · exact r_M_go_96 hf
theorem r_M_go_0 : ∀ (n : Nat) {g1 : Option xV} {g2 : Option xV} {g3 : Option xV} {g4 : Option xV} {σ : xSt} {r : xSt}, f_M_go_0 n σ = some r → Run 1 12 0 kX12_go (0, [some (vR 111), g1, g2, g3, g4], [], σ) (tV r) := by
  intro n
  induction n with
  | zero =>
    intro _ _ _ _ _ _ h
    exact nomatch (show (none : Option (xSt)) = some _ from h)
  | succ n ih =>
    intro g1 g2 g3 g4 σ r hf
    unfold f_M_go_0 at hf
    refine run_seg (k := 5) (s' := (if σ 111 5 < σ 111 3 then (11, [some (vR 111), g1, g2, g3, g4], [], σ) else (52, [some (vR 111), g1, g2, g3, g4], [], σ))) rfl ?_
    refine run_ite hf (fun _ hf => ?_) (fun _ hf => ?_)
    · refine run_seg (k := 4) (s' := (19, [some (vR 111), g1, g2, g3, g4], [vI (σ 111 5), vR 112], σ)) rfl ?_
      refine run_guard (s' := (20, [some (vR 111), g1, g2, g3, g4], [vI (σ 112 (σ 111 5).toNat)], σ)) hf rfl (fun hf => ?_)
      refine run_seg (k := 2) (s' := (if σ 112 (σ 111 5).toNat = 32 then (39, [some (vR 111), g1, g2, g3, g4], [], σ) else (25, [some (vR 111), g1, g2, g3, g4], [], σ))) rfl ?_
      refine run_ite hf (fun _ hf => ?_) (fun _ hf => ?_)
      · exact r_M_go_39 (fun h => ih h) hf
      · refine run_seg (k := 4) (s' := (33, [some (vR 111), g1, g2, g3, g4], [vI (σ 111 5), vR 112], σ)) rfl ?_
        refine run_guard (s' := (34, [some (vR 111), g1, g2, g3, g4], [vI (σ 112 (σ 111 5).toNat)], σ)) hf rfl (fun hf => ?_)
        refine run_seg (k := 2) (s' := (if σ 112 (σ 111 5).toNat = 10 then (39, [some (vR 111), g1, g2, g3, g4], [], σ) else (52, [some (vR 111), g1, g2, g3, g4], [], σ))) rfl ?_
        refine run_ite hf (fun _ hf => ?_) (fun _ hf => ?_)
        · exact r_M_go_39 (fun h => ih h) hf
        · exact r_M_go_52 hf
    · exact r_M_go_52 hf
theorem c_M_go {σ : xSt} {r : xSt} (hf : f_M_go σ = some r) : Call (1 + 1) 223 [vR 111] σ (tV r).1 (tV r).2 := by
  unfold f_M_go at hf
  refine call_of (own := 12) (rk := 0) (cd := kX12_go) (ls := [some (vR 111), none, none, none, none]) (rT := tV) rfl rfl rfl rfl rfl ?_
  exact r_M_go_0 1000000 hf
def f_M_spelt_78 (l5 : Int) (l6 : Int) (σ : xSt) : Option (Int) :=
  if 0 < l5 then (some (w64 ((w64 ((w64 (27 * l6)) + l5)) - 96)))
  else (some l6)
def f_M_spelt_57 (l4 : Int) (l5 : Int) (l6 : Int) (σ : xSt) : Option (Int) :=
  if 0 < l4 then (xlet (w64 ((w64 ((w64 (27 * l6)) + l4)) - 96)) fun x4 =>
  f_M_spelt_78 l5 x4 σ)
  else (f_M_spelt_78 l5 l6 σ)
def f_M_spelt_38 (l3 : Int) (l4 : Int) (l5 : Int) (l6 : Int) (σ : xSt) : Option (Int) :=
  if 0 < l3 then (xlet (w64 ((w64 ((w64 (27 * l6)) + l3)) - 96)) fun x3 =>
  f_M_spelt_57 l4 l5 x3 σ)
  else (f_M_spelt_57 l4 l5 l6 σ)
/-- BentPennyModel.spelt(IIIIII)J -/
def f_M_spelt (p0 : Int) (p1 : Int) (p2 : Int) (p3 : Int) (p4 : Int) (p5 : Int) (σ : xSt) : Option (Int) :=
  xlet (w64 ((w64 ((w64 (27 * (w64 (p0 - 96)))) + p1)) - 96)) fun x1 =>
  if 0 < p2 then (xlet (w64 ((w64 ((w64 (27 * x1)) + p2)) - 96)) fun x2 =>
  f_M_spelt_38 p3 p4 p5 x2 σ)
  else (f_M_spelt_38 p3 p4 p5 x1 σ)
theorem r_M_spelt_78 {l5 : Int} {l6 : Int} {g0 : Option xV} {g1 : Option xV} {g2 : Option xV} {g3 : Option xV} {g4 : Option xV} {σ : xSt} {r : Int} (hf : f_M_spelt_78 l5 l6 σ = some r) : Run 0 12 3 kX12_spelt (78, [g0, g1, g2, g3, g4, some (vI l5), some (vL l6), none], [], σ) ((tL σ) r) := by
  unfold f_M_spelt_78 at hf
  refine run_seg (k := 2) (s' := (if 0 < l5 then (83, [g0, g1, g2, g3, g4, some (vI l5), some (vL l6), none], [], σ) else (100, [g0, g1, g2, g3, g4, some (vI l5), some (vL l6), none], [], σ))) rfl ?_
  refine run_ite hf (fun _ hf => ?_) (fun _ hf => ?_)
  · refine run_seg (k := 9) (s' := (102, [g0, g1, g2, g3, g4, some (vI l5), some (vL l6), none], [vL (w64 ((w64 ((w64 (27 * l6)) + l5)) - 96))], σ)) rfl ?_
    exact run_ret hf rfl
  · refine run_seg (k := 1) (s' := (102, [g0, g1, g2, g3, g4, some (vI l5), some (vL l6), none], [vL l6], σ)) rfl ?_
    exact run_ret hf rfl
theorem r_M_spelt_57 {l4 : Int} {l5 : Int} {l6 : Int} {g0 : Option xV} {g1 : Option xV} {g2 : Option xV} {g3 : Option xV} {σ : xSt} {r : Int} (hf : f_M_spelt_57 l4 l5 l6 σ = some r) : Run 0 12 3 kX12_spelt (57, [g0, g1, g2, g3, some (vI l4), some (vI l5), some (vL l6), none], [], σ) ((tL σ) r) := by
  unfold f_M_spelt_57 at hf
  refine run_seg (k := 2) (s' := (if 0 < l4 then (62, [g0, g1, g2, g3, some (vI l4), some (vI l5), some (vL l6), none], [], σ) else (78, [g0, g1, g2, g3, some (vI l4), some (vI l5), some (vL l6), none], [], σ))) rfl ?_
  refine run_ite hf (fun _ hf => ?_) (fun _ hf => ?_)
  · refine run_seg (k := 9) (s' := (78, [g0, g1, g2, g3, some (vI l4), some (vI l5), some (vL (w64 ((w64 ((w64 (27 * l6)) + l4)) - 96))), none], [], σ)) rfl ?_
    refine run_let (fun x4 => (78, [g0, g1, g2, g3, some (vI l4), some (vI l5), some (vL x4), none], [], σ)) hf (fun x4 hf => ?_)
    exact r_M_spelt_78 hf
  · exact r_M_spelt_78 hf
theorem r_M_spelt_38 {l3 : Int} {l4 : Int} {l5 : Int} {l6 : Int} {g0 : Option xV} {g1 : Option xV} {g2 : Option xV} {σ : xSt} {r : Int} (hf : f_M_spelt_38 l3 l4 l5 l6 σ = some r) : Run 0 12 3 kX12_spelt (38, [g0, g1, g2, some (vI l3), some (vI l4), some (vI l5), some (vL l6), none], [], σ) ((tL σ) r) := by
  unfold f_M_spelt_38 at hf
  refine run_seg (k := 2) (s' := (if 0 < l3 then (42, [g0, g1, g2, some (vI l3), some (vI l4), some (vI l5), some (vL l6), none], [], σ) else (57, [g0, g1, g2, some (vI l3), some (vI l4), some (vI l5), some (vL l6), none], [], σ))) rfl ?_
  refine run_ite hf (fun _ hf => ?_) (fun _ hf => ?_)
  · refine run_seg (k := 9) (s' := (57, [g0, g1, g2, some (vI l3), some (vI l4), some (vI l5), some (vL (w64 ((w64 ((w64 (27 * l6)) + l3)) - 96))), none], [], σ)) rfl ?_
    refine run_let (fun x3 => (57, [g0, g1, g2, some (vI l3), some (vI l4), some (vI l5), some (vL x3), none], [], σ)) hf (fun x3 hf => ?_)
    exact r_M_spelt_57 hf
  · exact r_M_spelt_57 hf
theorem c_M_spelt {p0 : Int} {p1 : Int} {p2 : Int} {p3 : Int} {p4 : Int} {p5 : Int} {σ : xSt} {r : Int} (hf : f_M_spelt p0 p1 p2 p3 p4 p5 σ = some r) : Call (0 + 1) 224 [vI p0, vI p1, vI p2, vI p3, vI p4, vI p5] σ ((tL σ) r).1 ((tL σ) r).2 := by
  unfold f_M_spelt at hf
  refine call_of (own := 12) (rk := 3) (cd := kX12_spelt) (ls := [some (vI p0), some (vI p1), some (vI p2), some (vI p3), some (vI p4), some (vI p5), none, none]) (rT := (tL σ)) rfl rfl rfl rfl rfl ?_
  refine run_seg (k := 12) (s' := (19, [some (vI p0), some (vI p1), some (vI p2), some (vI p3), some (vI p4), some (vI p5), some (vL (w64 ((w64 ((w64 (27 * (w64 (p0 - 96)))) + p1)) - 96))), none], [], σ)) rfl ?_
  refine run_let (fun x1 => (19, [some (vI p0), some (vI p1), some (vI p2), some (vI p3), some (vI p4), some (vI p5), some (vL x1), none], [], σ)) hf (fun x1 hf => ?_)
  refine run_seg (k := 2) (s' := (if 0 < p2 then (23, [some (vI p0), some (vI p1), some (vI p2), some (vI p3), some (vI p4), some (vI p5), some (vL x1), none], [], σ) else (38, [some (vI p0), some (vI p1), some (vI p2), some (vI p3), some (vI p4), some (vI p5), some (vL x1), none], [], σ))) rfl ?_
  refine run_ite hf (fun _ hf => ?_) (fun _ hf => ?_)
  · refine run_seg (k := 9) (s' := (38, [some (vI p0), some (vI p1), some (vI p2), some (vI p3), some (vI p4), some (vI p5), some (vL (w64 ((w64 ((w64 (27 * x1)) + p2)) - 96))), none], [], σ)) rfl ?_
    refine run_let (fun x2 => (38, [some (vI p0), some (vI p1), some (vI p2), some (vI p3), some (vI p4), some (vI p5), some (vL x2), none], [], σ)) hf (fun x2 hf => ?_)
    exact r_M_spelt_38 hf
  · exact r_M_spelt_38 hf
/-- BentPennyModel.wordOf(I)J -/
def f_M_wordOf (p0 : Int) (σ : xSt) : Option (Int) :=
  if p0 = 0 then (xbR (f_M_spelt 99 111 105 110 0 0 σ) fun r1 =>
  some r1)
  else if p0 = 1 then (xbR (f_M_spelt 111 112 101 110 0 0 σ) fun r2 =>
  some r2)
  else if p0 = 2 then (xbR (f_M_spelt 119 104 101 101 108 0 σ) fun r3 =>
  some r3)
  else if p0 = 3 then (xbR (f_M_spelt 101 110 100 0 0 0 σ) fun r4 =>
  some r4)
  else if p0 = 4 then (xbR (f_M_spelt 97 103 97 105 110 0 σ) fun r5 =>
  some r5)
  else if p0 = 5 then (xbR (f_M_spelt 115 111 0 0 0 0 σ) fun r6 =>
  some r6)
  else if p0 = 6 then (xbR (f_M_spelt 111 114 0 0 0 0 σ) fun r7 =>
  some r7)
  else if p0 = 7 then (xbR (f_M_spelt 97 110 100 0 0 0 σ) fun r8 =>
  some r8)
  else if p0 = 8 then (xbR (f_M_spelt 110 111 116 0 0 0 σ) fun r9 =>
  some r9)
  else if p0 = 9 then (xbR (f_M_spelt 108 105 107 101 0 0 σ) fun r10 =>
  some r10)
  else if p0 = 10 then (xbR (f_M_spelt 99 111 109 101 115 0 σ) fun r11 =>
  some r11)
  else if p0 = 11 then (xbR (f_M_spelt 115 104 97 114 101 115 σ) fun r12 =>
  some r12)
  else if p0 = 12 then (xbR (f_M_spelt 112 108 97 99 101 0 σ) fun r13 =>
  some r13)
  else (xbR (f_M_spelt 107 110 111 116 115 0 σ) fun r14 =>
  some r14)
theorem c_M_wordOf {p0 : Int} {σ : xSt} {r : Int} (hf : f_M_wordOf p0 σ = some r) : Call (1 + 1) 225 [vI p0] σ ((tL σ) r).1 ((tL σ) r).2 := by
  unfold f_M_wordOf at hf
  refine call_of (own := 12) (rk := 3) (cd := kX12_wordOf) (ls := [some (vI p0)]) (rT := (tL σ)) rfl rfl rfl rfl rfl ?_
  refine run_seg (k := 2) (s' := (if p0 = 0 then (68, [some (vI p0)], [], σ) else (if p0 = 1 then (82, [some (vI p0)], [], σ) else (if p0 = 2 then (96, [some (vI p0)], [], σ) else (if p0 = 3 then (111, [some (vI p0)], [], σ) else (if p0 = 4 then (124, [some (vI p0)], [], σ) else (if p0 = 5 then (139, [some (vI p0)], [], σ) else (if p0 = 6 then (151, [some (vI p0)], [], σ) else (if p0 = 7 then (163, [some (vI p0)], [], σ) else (if p0 = 8 then (176, [some (vI p0)], [], σ) else (if p0 = 9 then (189, [some (vI p0)], [], σ) else (if p0 = 10 then (203, [some (vI p0)], [], σ) else (if p0 = 11 then (218, [some (vI p0)], [], σ) else (if p0 = 12 then (234, [some (vI p0)], [], σ) else (249, [some (vI p0)], [], σ))))))))))))))) rfl ?_
  refine run_ite hf (fun _ hf => ?_) (fun _ hf => ?_)
  · refine run_seg (k := 6) (s' := (78, [some (vI p0)], [vI 0, vI 0, vI 110, vI 105, vI 111, vI 99], σ)) rfl ?_
    refine run_callN (w := fun a => some (vL a)) (m := 224) (as := [vI 99, vI 111, vI 105, vI 110, vI 0, vI 0]) (pc := 81) (ls := [some (vI p0)]) (st' := []) (σ := σ) hf rfl (fun _ h => (c_M_spelt h).mono (by decide)) (fun r1 hf => ?_)
    exact run_ret hf rfl
  · refine run_ite hf (fun _ hf => ?_) (fun _ hf => ?_)
    · refine run_seg (k := 6) (s' := (92, [some (vI p0)], [vI 0, vI 0, vI 110, vI 101, vI 112, vI 111], σ)) rfl ?_
      refine run_callN (w := fun a => some (vL a)) (m := 224) (as := [vI 111, vI 112, vI 101, vI 110, vI 0, vI 0]) (pc := 95) (ls := [some (vI p0)]) (st' := []) (σ := σ) hf rfl (fun _ h => (c_M_spelt h).mono (by decide)) (fun r2 hf => ?_)
      exact run_ret hf rfl
    · refine run_ite hf (fun _ hf => ?_) (fun _ hf => ?_)
      · refine run_seg (k := 6) (s' := (107, [some (vI p0)], [vI 0, vI 108, vI 101, vI 101, vI 104, vI 119], σ)) rfl ?_
        refine run_callN (w := fun a => some (vL a)) (m := 224) (as := [vI 119, vI 104, vI 101, vI 101, vI 108, vI 0]) (pc := 110) (ls := [some (vI p0)]) (st' := []) (σ := σ) hf rfl (fun _ h => (c_M_spelt h).mono (by decide)) (fun r3 hf => ?_)
        exact run_ret hf rfl
      · refine run_ite hf (fun _ hf => ?_) (fun _ hf => ?_)
        · refine run_seg (k := 6) (s' := (120, [some (vI p0)], [vI 0, vI 0, vI 0, vI 100, vI 110, vI 101], σ)) rfl ?_
          refine run_callN (w := fun a => some (vL a)) (m := 224) (as := [vI 101, vI 110, vI 100, vI 0, vI 0, vI 0]) (pc := 123) (ls := [some (vI p0)]) (st' := []) (σ := σ) hf rfl (fun _ h => (c_M_spelt h).mono (by decide)) (fun r4 hf => ?_)
          exact run_ret hf rfl
        · refine run_ite hf (fun _ hf => ?_) (fun _ hf => ?_)
          · refine run_seg (k := 6) (s' := (135, [some (vI p0)], [vI 0, vI 110, vI 105, vI 97, vI 103, vI 97], σ)) rfl ?_
            refine run_callN (w := fun a => some (vL a)) (m := 224) (as := [vI 97, vI 103, vI 97, vI 105, vI 110, vI 0]) (pc := 138) (ls := [some (vI p0)]) (st' := []) (σ := σ) hf rfl (fun _ h => (c_M_spelt h).mono (by decide)) (fun r5 hf => ?_)
            exact run_ret hf rfl
          · refine run_ite hf (fun _ hf => ?_) (fun _ hf => ?_)
            · refine run_seg (k := 6) (s' := (147, [some (vI p0)], [vI 0, vI 0, vI 0, vI 0, vI 111, vI 115], σ)) rfl ?_
              refine run_callN (w := fun a => some (vL a)) (m := 224) (as := [vI 115, vI 111, vI 0, vI 0, vI 0, vI 0]) (pc := 150) (ls := [some (vI p0)]) (st' := []) (σ := σ) hf rfl (fun _ h => (c_M_spelt h).mono (by decide)) (fun r6 hf => ?_)
              exact run_ret hf rfl
            · refine run_ite hf (fun _ hf => ?_) (fun _ hf => ?_)
              · refine run_seg (k := 6) (s' := (159, [some (vI p0)], [vI 0, vI 0, vI 0, vI 0, vI 114, vI 111], σ)) rfl ?_
                refine run_callN (w := fun a => some (vL a)) (m := 224) (as := [vI 111, vI 114, vI 0, vI 0, vI 0, vI 0]) (pc := 162) (ls := [some (vI p0)]) (st' := []) (σ := σ) hf rfl (fun _ h => (c_M_spelt h).mono (by decide)) (fun r7 hf => ?_)
                exact run_ret hf rfl
              · refine run_ite hf (fun _ hf => ?_) (fun _ hf => ?_)
                · refine run_seg (k := 6) (s' := (172, [some (vI p0)], [vI 0, vI 0, vI 0, vI 100, vI 110, vI 97], σ)) rfl ?_
                  refine run_callN (w := fun a => some (vL a)) (m := 224) (as := [vI 97, vI 110, vI 100, vI 0, vI 0, vI 0]) (pc := 175) (ls := [some (vI p0)]) (st' := []) (σ := σ) hf rfl (fun _ h => (c_M_spelt h).mono (by decide)) (fun r8 hf => ?_)
                  exact run_ret hf rfl
                · refine run_ite hf (fun _ hf => ?_) (fun _ hf => ?_)
                  · refine run_seg (k := 6) (s' := (185, [some (vI p0)], [vI 0, vI 0, vI 0, vI 116, vI 111, vI 110], σ)) rfl ?_
                    refine run_callN (w := fun a => some (vL a)) (m := 224) (as := [vI 110, vI 111, vI 116, vI 0, vI 0, vI 0]) (pc := 188) (ls := [some (vI p0)]) (st' := []) (σ := σ) hf rfl (fun _ h => (c_M_spelt h).mono (by decide)) (fun r9 hf => ?_)
                    exact run_ret hf rfl
                  · refine run_ite hf (fun _ hf => ?_) (fun _ hf => ?_)
                    · refine run_seg (k := 6) (s' := (199, [some (vI p0)], [vI 0, vI 0, vI 101, vI 107, vI 105, vI 108], σ)) rfl ?_
                      refine run_callN (w := fun a => some (vL a)) (m := 224) (as := [vI 108, vI 105, vI 107, vI 101, vI 0, vI 0]) (pc := 202) (ls := [some (vI p0)]) (st' := []) (σ := σ) hf rfl (fun _ h => (c_M_spelt h).mono (by decide)) (fun r10 hf => ?_)
                      exact run_ret hf rfl
                    · refine run_ite hf (fun _ hf => ?_) (fun _ hf => ?_)
                      · refine run_seg (k := 6) (s' := (214, [some (vI p0)], [vI 0, vI 115, vI 101, vI 109, vI 111, vI 99], σ)) rfl ?_
                        refine run_callN (w := fun a => some (vL a)) (m := 224) (as := [vI 99, vI 111, vI 109, vI 101, vI 115, vI 0]) (pc := 217) (ls := [some (vI p0)]) (st' := []) (σ := σ) hf rfl (fun _ h => (c_M_spelt h).mono (by decide)) (fun r11 hf => ?_)
                        exact run_ret hf rfl
                      · refine run_ite hf (fun _ hf => ?_) (fun _ hf => ?_)
                        · refine run_seg (k := 6) (s' := (230, [some (vI p0)], [vI 115, vI 101, vI 114, vI 97, vI 104, vI 115], σ)) rfl ?_
                          refine run_callN (w := fun a => some (vL a)) (m := 224) (as := [vI 115, vI 104, vI 97, vI 114, vI 101, vI 115]) (pc := 233) (ls := [some (vI p0)]) (st' := []) (σ := σ) hf rfl (fun _ h => (c_M_spelt h).mono (by decide)) (fun r12 hf => ?_)
                          exact run_ret hf rfl
                        · refine run_ite hf (fun _ hf => ?_) (fun _ hf => ?_)
                          · refine run_seg (k := 6) (s' := (245, [some (vI p0)], [vI 0, vI 101, vI 99, vI 97, vI 108, vI 112], σ)) rfl ?_
                            refine run_callN (w := fun a => some (vL a)) (m := 224) (as := [vI 112, vI 108, vI 97, vI 99, vI 101, vI 0]) (pc := 248) (ls := [some (vI p0)]) (st' := []) (σ := σ) hf rfl (fun _ h => (c_M_spelt h).mono (by decide)) (fun r13 hf => ?_)
                            exact run_ret hf rfl
                          · refine run_seg (k := 6) (s' := (260, [some (vI p0)], [vI 0, vI 115, vI 116, vI 111, vI 110, vI 107], σ)) rfl ?_
                            refine run_callN (w := fun a => some (vL a)) (m := 224) (as := [vI 107, vI 110, vI 111, vI 116, vI 115, vI 0]) (pc := 263) (ls := [some (vI p0)]) (st' := []) (σ := σ) hf rfl (fun _ h => (c_M_spelt h).mono (by decide)) (fun r14 hf => ?_)
                            exact run_ret hf rfl
/-- BentPennyModel.isWord(I)Z -/
def f_M_isWord (p1 : Int) (σ : xSt) : Option (Int) :=
  if σ 111 7 = 2 then (xbR (f_M_wordOf p1 σ) fun r1 =>
  if xlc (σ 111 12) r1 = 0 then (some 1)
  else (some 0))
  else (some 0)
theorem c_M_isWord {p1 : Int} {σ : xSt} {r : Int} (hf : f_M_isWord p1 σ = some r) : Call (2 + 1) 226 [vR 111, vI p1] σ ((tI σ) r).1 ((tI σ) r).2 := by
  unfold f_M_isWord at hf
  refine call_of (own := 12) (rk := 2) (cd := kX12_isWord) (ls := [some (vR 111), some (vI p1)]) (rT := (tI σ)) rfl rfl rfl rfl rfl ?_
  refine run_seg (k := 4) (s' := (if σ 111 7 = 2 then (8, [some (vR 111), some (vI p1)], [], σ) else (24, [some (vR 111), some (vI p1)], [], σ))) rfl ?_
  refine run_ite hf (fun _ hf => ?_) (fun _ hf => ?_)
  · refine run_seg (k := 3) (s' := (13, [some (vR 111), some (vI p1)], [vI p1, vL (σ 111 12)], σ)) rfl ?_
    refine run_callN (w := fun a => some (vL a)) (m := 225) (as := [vI p1]) (pc := 16) (ls := [some (vR 111), some (vI p1)]) (st' := [vL (σ 111 12)]) (σ := σ) hf rfl (fun _ h => (c_M_wordOf h).mono (by decide)) (fun r1 hf => ?_)
    refine run_seg (k := 2) (s' := (if xlc (σ 111 12) r1 = 0 then (20, [some (vR 111), some (vI p1)], [], σ) else (24, [some (vR 111), some (vI p1)], [], σ))) rfl ?_
    refine run_ite hf (fun _ hf => ?_) (fun _ hf => ?_)
    · refine run_seg (k := 2) (s' := (25, [some (vR 111), some (vI p1)], [vI 1], σ)) rfl ?_
      exact run_ret hf rfl
    · refine run_seg (k := 1) (s' := (25, [some (vR 111), some (vI p1)], [vI 0], σ)) rfl ?_
      exact run_ret hf rfl
  · refine run_seg (k := 1) (s' := (25, [some (vR 111), some (vI p1)], [vI 0], σ)) rfl ?_
    exact run_ret hf rfl
/-- BentPennyModel.isSign(I)Z -/
def f_M_isSign (p1 : Int) (σ : xSt) : Option (Int) :=
  if σ 111 7 = 4 then (if σ 111 9 = p1 then (some 1)
  else (some 0))
  else (some 0)
theorem c_M_isSign {p1 : Int} {σ : xSt} {r : Int} (hf : f_M_isSign p1 σ = some r) : Call (0 + 1) 227 [vR 111, vI p1] σ ((tI σ) r).1 ((tI σ) r).2 := by
  unfold f_M_isSign at hf
  refine call_of (own := 12) (rk := 2) (cd := kX12_isSign) (ls := [some (vR 111), some (vI p1)]) (rT := (tI σ)) rfl rfl rfl rfl rfl ?_
  refine run_seg (k := 4) (s' := (if σ 111 7 = 4 then (8, [some (vR 111), some (vI p1)], [], σ) else (20, [some (vR 111), some (vI p1)], [], σ))) rfl ?_
  refine run_ite hf (fun _ hf => ?_) (fun _ hf => ?_)
  · refine run_seg (k := 4) (s' := (if σ 111 9 = p1 then (16, [some (vR 111), some (vI p1)], [], σ) else (20, [some (vR 111), some (vI p1)], [], σ))) rfl ?_
    refine run_ite hf (fun _ hf => ?_) (fun _ hf => ?_)
    · refine run_seg (k := 2) (s' := (21, [some (vR 111), some (vI p1)], [vI 1], σ)) rfl ?_
      exact run_ret hf rfl
    · refine run_seg (k := 1) (s' := (21, [some (vR 111), some (vI p1)], [vI 0], σ)) rfl ?_
      exact run_ret hf rfl
  · refine run_seg (k := 1) (s' := (21, [some (vR 111), some (vI p1)], [vI 0], σ)) rfl ?_
    exact run_ret hf rfl
def f_M_isName_12 : Nat → Int → xSt → Option (Int)
  | 0, _, _ => none
  | n + 1, l1, σ =>
    if 13 < l1 then (some 1)
    else (xbR (f_M_wordOf l1 σ) fun r1 =>
    if xlc (σ 111 12) r1 = 0 then (some 0)
    else (xlet (w32 (l1 + 1)) fun x2 =>
    f_M_isName_12 n x2 σ))
/-- BentPennyModel.isName()Z -/
def f_M_isName (σ : xSt) : Option (Int) :=
  if σ 111 7 = 2 then (f_M_isName_12 1000000 0 σ)
  else (some 0)
theorem r_M_isName_12 : ∀ (n : Nat) {l1 : Int} {σ : xSt} {r : Int}, f_M_isName_12 n l1 σ = some r → Run 2 12 2 kX12_isName (12, [some (vR 111), some (vI l1)], [], σ) ((tI σ) r) := by
  intro n
  induction n with
  | zero =>
    intro _ _ _ h
    exact nomatch (show (none : Option (Int)) = some _ from h)
  | succ n ih =>
    intro l1 σ r hf
    unfold f_M_isName_12 at hf
    refine run_seg (k := 3) (s' := (if 13 < l1 then (38, [some (vR 111), some (vI l1)], [], σ) else (18, [some (vR 111), some (vI l1)], [], σ))) rfl ?_
    refine run_ite hf (fun _ hf => ?_) (fun _ hf => ?_)
    · refine run_seg (k := 1) (s' := (39, [some (vR 111), some (vI l1)], [vI 1], σ)) rfl ?_
      exact run_ret hf rfl
    · refine run_seg (k := 3) (s' := (23, [some (vR 111), some (vI l1)], [vI l1, vL (σ 111 12)], σ)) rfl ?_
      refine run_callN (w := fun a => some (vL a)) (m := 225) (as := [vI l1]) (pc := 26) (ls := [some (vR 111), some (vI l1)]) (st' := [vL (σ 111 12)]) (σ := σ) hf rfl (fun _ h => (c_M_wordOf h).mono (by decide)) (fun r1 hf => ?_)
      refine run_seg (k := 2) (s' := (if xlc (σ 111 12) r1 = 0 then (30, [some (vR 111), some (vI l1)], [], σ) else (32, [some (vR 111), some (vI l1)], [], σ))) rfl ?_
      refine run_ite hf (fun _ hf => ?_) (fun _ hf => ?_)
      · refine run_seg (k := 1) (s' := (31, [some (vR 111), some (vI l1)], [vI 0], σ)) rfl ?_
        exact run_ret hf rfl
      · refine run_seg (k := 1) (s' := (35, [some (vR 111), some (vI (w32 (l1 + 1)))], [], σ)) rfl ?_
        refine run_let (fun x2 => (35, [some (vR 111), some (vI x2)], [], σ)) hf (fun x2 hf => ?_)
        refine run_seg (k := 1) (s' := (12, [some (vR 111), some (vI x2)], [], σ)) rfl ?_
        exact ih hf
theorem c_M_isName {σ : xSt} {r : Int} (hf : f_M_isName σ = some r) : Call (2 + 1) 228 [vR 111] σ ((tI σ) r).1 ((tI σ) r).2 := by
  unfold f_M_isName at hf
  refine call_of (own := 12) (rk := 2) (cd := kX12_isName) (ls := [some (vR 111), none]) (rT := (tI σ)) rfl rfl rfl rfl rfl ?_
  refine run_seg (k := 4) (s' := (if σ 111 7 = 2 then (10, [some (vR 111), none], [], σ) else (8, [some (vR 111), none], [], σ))) rfl ?_
  refine run_ite hf (fun _ hf => ?_) (fun _ hf => ?_)
  · refine run_seg (k := 2) (s' := (12, [some (vR 111), some (vI 0)], [], σ)) rfl ?_
    exact r_M_isName_12 1000000 hf
  · refine run_seg (k := 1) (s' := (9, [some (vR 111), none], [vI 0], σ)) rfl ?_
    exact run_ret hf rfl
def f_M_bad_14 (s0 : Int) (σ : xSt) : Option (Int × xSt) :=
  xlet (upS σ 111 10 s0) fun σ1 =>
  xlet (upS σ1 111 11 (σ1 111 6)) fun σ2 =>
  some (0, σ2)
/-- BentPennyModel.bad(I)Z -/
def f_M_bad (p1 : Int) (σ : xSt) : Option (Int × xSt) :=
  if σ 111 7 = 1 then (f_M_bad_14 1 σ)
  else (f_M_bad_14 p1 σ)
theorem r_M_bad_14 {s0 : Int} {g1 : Option xV} {σ : xSt} {r : Int × xSt} (hf : f_M_bad_14 s0 σ = some r) : Run 0 12 2 kX12_bad (14, [some (vR 111), g1], [vI s0, vR 111], σ) (tIW r) := by
  unfold f_M_bad_14 at hf
  refine run_seg (k := 1) (s' := (17, [some (vR 111), g1], [], upS σ 111 10 s0)) rfl ?_
  refine run_let (fun σ1 => (17, [some (vR 111), g1], [], σ1)) hf (fun σ1 hf => ?_)
  refine run_seg (k := 4) (s' := (25, [some (vR 111), g1], [], upS σ1 111 11 (σ1 111 6))) rfl ?_
  refine run_let (fun σ2 => (25, [some (vR 111), g1], [], σ2)) hf (fun σ2 hf => ?_)
  refine run_seg (k := 1) (s' := (26, [some (vR 111), g1], [vI 0], σ2)) rfl ?_
  exact run_ret hf rfl
theorem c_M_bad {p1 : Int} {σ : xSt} {r : Int × xSt} (hf : f_M_bad p1 σ = some r) : Call (0 + 1) 229 [vR 111, vI p1] σ (tIW r).1 (tIW r).2 := by
  unfold f_M_bad at hf
  refine call_of (own := 12) (rk := 2) (cd := kX12_bad) (ls := [some (vR 111), some (vI p1)]) (rT := tIW) rfl rfl rfl rfl rfl ?_
  refine run_seg (k := 5) (s' := (if σ 111 7 = 1 then (9, [some (vR 111), some (vI p1)], [vR 111], σ) else (13, [some (vR 111), some (vI p1)], [vR 111], σ))) rfl ?_
  refine run_ite hf (fun _ hf => ?_) (fun _ hf => ?_)
  · refine run_seg (k := 2) (s' := (14, [some (vR 111), some (vI p1)], [vI 1, vR 111], σ)) rfl ?_
    exact r_M_bad_14 hf
  · refine run_seg (k := 1) (s' := (14, [some (vR 111), some (vI p1)], [vI p1, vR 111], σ)) rfl ?_
    exact r_M_bad_14 hf
