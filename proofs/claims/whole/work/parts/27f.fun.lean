/-! printed by wip/whole/all16.py: what the methods compute, and that the reader does so -/
/-- BentPennyModel.count(I)I -/
def f_M_count (p1 : Int) (σ : xSt) : Option (Int × xSt) :=
  xlet (upS σ 111 0 0) fun σ1 =>
  xbR (f_M_lay σ1) fun σ2 =>
  if p1 = 0 then (xbR (f_M_things σ2) fun r3 =>
  some (r3, σ2))
  else if p1 = 1 then (xbR (f_M_ends σ2) fun r4 =>
  some (r4, σ2))
  else if p1 = 2 then (some (σ2 113 41, σ2))
  else if p1 = 3 then (some (σ2 113 2, σ2))
  else if p1 = 4 then (some (σ2 111 2, σ2))
  else (some ((-1), σ2))
theorem c_M_count {p1 : Int} {σ : xSt} {r : Int × xSt} (hf : f_M_count p1 σ = some r) : Call (1 + 1) 351 [vR 111, vI p1] σ (tIW r).1 (tIW r).2 := by
  unfold f_M_count at hf
  refine call_of (own := 12) (rk := 1) (cd := kX12_count) (ls := [some (vR 111), some (vI p1)]) (rT := tIW) rfl rfl rfl rfl rfl ?_
  refine run_seg (k := 3) (s' := (5, [some (vR 111), some (vI p1)], [], upS σ 111 0 0)) rfl ?_
  refine run_let (fun σ1 => (5, [some (vR 111), some (vI p1)], [], σ1)) hf (fun σ1 hf => ?_)
  refine run_seg (k := 1) (s' := (6, [some (vR 111), some (vI p1)], [vR 111], σ1)) rfl ?_
  refine run_callV (m := 233) (as := [vR 111]) (pc := 9) (ls := [some (vR 111), some (vI p1)]) (st' := []) (σ := σ1) hf rfl (fun _ h => (c_M_lay h).mono (by decide)) (fun σ2 hf => ?_)
  refine run_seg (k := 2) (s' := (if p1 = 0 then (44, [some (vR 111), some (vI p1)], [], σ2) else (if p1 = 1 then (49, [some (vR 111), some (vI p1)], [], σ2) else (if p1 = 2 then (54, [some (vR 111), some (vI p1)], [], σ2) else (if p1 = 3 then (62, [some (vR 111), some (vI p1)], [], σ2) else (if p1 = 4 then (69, [some (vR 111), some (vI p1)], [], σ2) else (74, [some (vR 111), some (vI p1)], [], σ2))))))) rfl ?_
  refine run_ite hf (fun _ hf => ?_) (fun _ hf => ?_)
  · refine run_seg (k := 1) (s' := (45, [some (vR 111), some (vI p1)], [vR 111], σ2)) rfl ?_
    refine run_callN (w := fun a => some (vI a)) (m := 245) (as := [vR 111]) (pc := 48) (ls := [some (vR 111), some (vI p1)]) (st' := []) (σ := σ2) hf rfl (fun _ h => (c_M_things h).mono (by decide)) (fun r3 hf => ?_)
    exact run_ret hf rfl
  · refine run_ite hf (fun _ hf => ?_) (fun _ hf => ?_)
    · refine run_seg (k := 1) (s' := (50, [some (vR 111), some (vI p1)], [vR 111], σ2)) rfl ?_
      refine run_callN (w := fun a => some (vI a)) (m := 246) (as := [vR 111]) (pc := 53) (ls := [some (vR 111), some (vI p1)]) (st' := []) (σ := σ2) hf rfl (fun _ h => (c_M_ends h).mono (by decide)) (fun r4 hf => ?_)
      exact run_ret hf rfl
    · refine run_ite hf (fun _ hf => ?_) (fun _ hf => ?_)
      · refine run_seg (k := 4) (s' := (61, [some (vR 111), some (vI p1)], [vI (σ2 113 41)], σ2)) rfl ?_
        exact run_ret hf rfl
      · refine run_ite hf (fun _ hf => ?_) (fun _ hf => ?_)
        · refine run_seg (k := 4) (s' := (68, [some (vR 111), some (vI p1)], [vI (σ2 113 2)], σ2)) rfl ?_
          exact run_ret hf rfl
        · refine run_ite hf (fun _ hf => ?_) (fun _ hf => ?_)
          · refine run_seg (k := 2) (s' := (73, [some (vR 111), some (vI p1)], [vI (σ2 111 2)], σ2)) rfl ?_
            exact run_ret hf rfl
          · refine run_seg (k := 1) (s' := (75, [some (vR 111), some (vI p1)], [vI (-1)], σ2)) rfl ?_
            exact run_ret hf rfl
/-- BentPenny$State.copyFrom(LBentPenny$State;)V -/
def f_State_copyFrom (a0 : Nat) (a1 : Nat) (σ : xSt) : Option (xSt) :=
  xbR (f_Table_copyFrom (a0 + 1) (a1 + 1) σ) fun σ1 =>
  xbR (f_Way_copyFrom (a0 + 10) (a1 + 10) σ1) fun σ2 =>
  xbR (f_Sentence_copyFrom (a0 + 16) (a1 + 16) σ2) fun σ3 =>
  some σ3
theorem c_State_copyFrom_6_47 {σ : xSt} {r : xSt} (hf : f_State_copyFrom 6 47 σ = some r) : Call (1 + 1) 81 [vR 6, vR 47] σ (tV r).1 (tV r).2 := by
  unfold f_State_copyFrom at hf
  refine call_of (own := 7) (rk := 0) (cd := kX7_copyFrom) (ls := [some (vR 6), some (vR 47)]) (rT := tV) rfl rfl rfl rfl rfl ?_
  refine run_seg (k := 4) (s' := (8, [some (vR 6), some (vR 47)], [vR 48, vR 7], σ)) rfl ?_
  refine run_callV (m := 83) (as := [vR 7, vR 48]) (pc := 11) (ls := [some (vR 6), some (vR 47)]) (st' := []) (σ := σ) hf rfl (fun _ h => (c_Table_copyFrom_7_48 h).mono (by decide)) (fun σ1 hf => ?_)
  refine run_seg (k := 4) (s' := (19, [some (vR 6), some (vR 47)], [vR 57, vR 16], σ1)) rfl ?_
  refine run_callV (m := 128) (as := [vR 16, vR 57]) (pc := 22) (ls := [some (vR 6), some (vR 47)]) (st' := []) (σ := σ1) hf rfl (fun _ h => (c_Way_copyFrom_16_57 h).mono (by decide)) (fun σ2 hf => ?_)
  refine run_seg (k := 4) (s' := (30, [some (vR 6), some (vR 47)], [vR 63, vR 22], σ2)) rfl ?_
  refine run_callV (m := 59) (as := [vR 22, vR 63]) (pc := 33) (ls := [some (vR 6), some (vR 47)]) (st' := []) (σ := σ2) hf rfl (fun _ h => (c_Sentence_copyFrom_22_63 h).mono (by decide)) (fun σ3 hf => ?_)
  exact run_ret hf rfl
theorem c_State_copyFrom_6_67 {σ : xSt} {r : xSt} (hf : f_State_copyFrom 6 67 σ = some r) : Call (1 + 1) 81 [vR 6, vR 67] σ (tV r).1 (tV r).2 := by
  unfold f_State_copyFrom at hf
  refine call_of (own := 7) (rk := 0) (cd := kX7_copyFrom) (ls := [some (vR 6), some (vR 67)]) (rT := tV) rfl rfl rfl rfl rfl ?_
  refine run_seg (k := 4) (s' := (8, [some (vR 6), some (vR 67)], [vR 68, vR 7], σ)) rfl ?_
  refine run_callV (m := 83) (as := [vR 7, vR 68]) (pc := 11) (ls := [some (vR 6), some (vR 67)]) (st' := []) (σ := σ) hf rfl (fun _ h => (c_Table_copyFrom_7_68 h).mono (by decide)) (fun σ1 hf => ?_)
  refine run_seg (k := 4) (s' := (19, [some (vR 6), some (vR 67)], [vR 77, vR 16], σ1)) rfl ?_
  refine run_callV (m := 128) (as := [vR 16, vR 77]) (pc := 22) (ls := [some (vR 6), some (vR 67)]) (st' := []) (σ := σ1) hf rfl (fun _ h => (c_Way_copyFrom_16_77 h).mono (by decide)) (fun σ2 hf => ?_)
  refine run_seg (k := 4) (s' := (30, [some (vR 6), some (vR 67)], [vR 83, vR 22], σ2)) rfl ?_
  refine run_callV (m := 59) (as := [vR 22, vR 83]) (pc := 33) (ls := [some (vR 6), some (vR 67)]) (st' := []) (σ := σ2) hf rfl (fun _ h => (c_Sentence_copyFrom_22_83 h).mono (by decide)) (fun σ3 hf => ?_)
  exact run_ret hf rfl
theorem c_State_copyFrom_47_6 {σ : xSt} {r : xSt} (hf : f_State_copyFrom 47 6 σ = some r) : Call (1 + 1) 81 [vR 47, vR 6] σ (tV r).1 (tV r).2 := by
  unfold f_State_copyFrom at hf
  refine call_of (own := 7) (rk := 0) (cd := kX7_copyFrom) (ls := [some (vR 47), some (vR 6)]) (rT := tV) rfl rfl rfl rfl rfl ?_
  refine run_seg (k := 4) (s' := (8, [some (vR 47), some (vR 6)], [vR 7, vR 48], σ)) rfl ?_
  refine run_callV (m := 83) (as := [vR 48, vR 7]) (pc := 11) (ls := [some (vR 47), some (vR 6)]) (st' := []) (σ := σ) hf rfl (fun _ h => (c_Table_copyFrom_48_7 h).mono (by decide)) (fun σ1 hf => ?_)
  refine run_seg (k := 4) (s' := (19, [some (vR 47), some (vR 6)], [vR 16, vR 57], σ1)) rfl ?_
  refine run_callV (m := 128) (as := [vR 57, vR 16]) (pc := 22) (ls := [some (vR 47), some (vR 6)]) (st' := []) (σ := σ1) hf rfl (fun _ h => (c_Way_copyFrom_57_16 h).mono (by decide)) (fun σ2 hf => ?_)
  refine run_seg (k := 4) (s' := (30, [some (vR 47), some (vR 6)], [vR 22, vR 63], σ2)) rfl ?_
  refine run_callV (m := 59) (as := [vR 63, vR 22]) (pc := 33) (ls := [some (vR 47), some (vR 6)]) (st' := []) (σ := σ2) hf rfl (fun _ h => (c_Sentence_copyFrom_63_22 h).mono (by decide)) (fun σ3 hf => ?_)
  exact run_ret hf rfl
theorem c_State_copyFrom_67_6 {σ : xSt} {r : xSt} (hf : f_State_copyFrom 67 6 σ = some r) : Call (1 + 1) 81 [vR 67, vR 6] σ (tV r).1 (tV r).2 := by
  unfold f_State_copyFrom at hf
  refine call_of (own := 7) (rk := 0) (cd := kX7_copyFrom) (ls := [some (vR 67), some (vR 6)]) (rT := tV) rfl rfl rfl rfl rfl ?_
  refine run_seg (k := 4) (s' := (8, [some (vR 67), some (vR 6)], [vR 7, vR 68], σ)) rfl ?_
  refine run_callV (m := 83) (as := [vR 68, vR 7]) (pc := 11) (ls := [some (vR 67), some (vR 6)]) (st' := []) (σ := σ) hf rfl (fun _ h => (c_Table_copyFrom_68_7 h).mono (by decide)) (fun σ1 hf => ?_)
  refine run_seg (k := 4) (s' := (19, [some (vR 67), some (vR 6)], [vR 16, vR 77], σ1)) rfl ?_
  refine run_callV (m := 128) (as := [vR 77, vR 16]) (pc := 22) (ls := [some (vR 67), some (vR 6)]) (st' := []) (σ := σ1) hf rfl (fun _ h => (c_Way_copyFrom_77_16 h).mono (by decide)) (fun σ2 hf => ?_)
  refine run_seg (k := 4) (s' := (30, [some (vR 67), some (vR 6)], [vR 22, vR 83], σ2)) rfl ?_
  refine run_callV (m := 59) (as := [vR 83, vR 22]) (pc := 33) (ls := [some (vR 67), some (vR 6)]) (st' := []) (σ := σ2) hf rfl (fun _ h => (c_Sentence_copyFrom_83_22 h).mono (by decide)) (fun σ3 hf => ?_)
  exact run_ret hf rfl
