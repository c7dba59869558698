/-! image, restore, imageAt of the class: by hand, since imageAt answers a reference -/
theorem isW_1 {k n : Int} (h : 0 ≤ k ∧ k < n) (σ : xSt) : f_X_isWithin k n σ = some 1 := by
  unfold f_X_isWithin
  rw [if_neg (by omega), if_pos h.2]
theorem isW_0 {k n : Int} (h : ¬ (0 ≤ k ∧ k < n)) (σ : xSt) : f_X_isWithin k n σ = some 0 := by
  unfold f_X_isWithin
  by_cases h1 : k < 0
  · rw [if_pos h1]
  · rw [if_neg h1, if_neg (by omega)]
def imR (k : Int) : Option Nat := if 0 ≤ k ∧ k < 2 then (if k = 0 then some 47 else some 67) else none
theorem c_X_imageAt (k : Int) (σ : xSt) : Call 2 205 [vR 0, vI k] σ (some (some (.inr (.inr (imR k))))) σ := by
  refine call_of (d := 1) (own := 11) (rk := 4) (cd := kX11_imageAt) (ls := [some (vR 0), some (vI k)]) (rT := fun _ : Unit => ((some (some (.inr (.inr (imR k)))) : xR), σ)) (r := ()) rfl rfl rfl rfl rfl ?_
  refine run_seg (k := 4) (s' := (6, [some (vR 0), some (vI k)], [vI 2, vI k], σ)) rfl ?_
  by_cases h : 0 ≤ k ∧ k < 2
  · refine run_callR (m := 207) (as := [vI k, vI 2]) (pc := 9) (ls := [some (vR 0), some (vI k)]) (st' := []) (v := some (vI 1)) rfl (c_X_isWithin (isW_1 h σ)) ?_
    refine run_seg (k := 4) (s' := (17, [some (vR 0), some (vI k)], [vI k, vR 46], σ)) rfl ?_
    have e1 : imR k = if k = 0 then some 47 else some 67 := if_pos h
    refine run_one (s' := if k = 0 then (18, [some (vR 0), some (vI k)], [vR 47], σ) else (18, [some (vR 0), some (vI k)], [vR 67], σ)) ?_ ?_
    · have e2 : xin k 2 = true := decide_eq_true h
      show some (xin k 2, _) = some (true, _)
      rw [e2]
      rfl
    · by_cases hk : k = 0
      · rw [if_pos hk, e1, if_pos hk]
        refine run_seg (k := 1) (s' := (22, [some (vR 0), some (vI k)], [vR 47], σ)) rfl ?_
        exact run_ret (v := ()) (rT := fun _ : Unit => ((some (some (vR 47)) : xR), σ)) (r := ()) rfl rfl
      · rw [if_neg hk, e1, if_neg hk]
        refine run_seg (k := 1) (s' := (22, [some (vR 0), some (vI k)], [vR 67], σ)) rfl ?_
        exact run_ret (v := ()) (rT := fun _ : Unit => ((some (some (vR 67)) : xR), σ)) (r := ()) rfl rfl
  · refine run_callR (m := 207) (as := [vI k, vI 2]) (pc := 9) (ls := [some (vR 0), some (vI k)]) (st' := []) (v := some (vI 0)) rfl (c_X_isWithin (isW_0 h σ)) ?_
    have e1 : imR k = none := if_neg h
    rw [e1]
    refine run_seg (k := 2) (s' := (22, [some (vR 0), some (vI k)], [vN], σ)) rfl ?_
    exact run_ret (v := ()) (rT := fun _ : Unit => ((some (some vN) : xR), σ)) (r := ()) rfl rfl
/-- image -/
def f_X_image (k : Int) (σ : xSt) : Option (Int × xSt) :=
  if 0 ≤ k ∧ k < 2 then (if k = 0 then (xbR (f_State_copyFrom 47 6 σ) fun σ1 => some (1, upS σ1 47 3 1)) else (xbR (f_State_copyFrom 67 6 σ) fun σ1 => some (1, upS σ1 67 3 1)))
  else some (0, σ)
/-- restore -/
def f_X_restore (k : Int) (σ : xSt) : Option (Int × xSt) :=
  if 0 ≤ k ∧ k < 2 then (if k = 0 then (if σ 47 3 = 0 then some (0, σ) else (xbR (f_State_copyFrom 6 47 σ) fun σ1 => some (1, σ1))) else (if σ 67 3 = 0 then some (0, σ) else (xbR (f_State_copyFrom 6 67 σ) fun σ1 => some (1, σ1))))
  else some (0, σ)
theorem c_X_image {k : Int} {σ : xSt} {r : Int × xSt} (hf : f_X_image k σ = some r) : Call 3 203 [vR 0, vI k] σ (tIW r).1 (tIW r).2 := by
  unfold f_X_image at hf
  refine call_of (d := 2) (own := 11) (rk := 2) (cd := kX11_image) (ls := [some (vR 0), some (vI k), none]) (rT := tIW) rfl rfl rfl rfl rfl ?_
  refine run_seg (k := 2) (s' := (2, [some (vR 0), some (vI k), none], [vI k, vR 0], σ)) rfl ?_
  refine run_callR (m := 205) (as := [vR 0, vI k]) (pc := 5) (ls := [some (vR 0), some (vI k), none]) (st' := []) (v := some (.inr (.inr (imR k)))) rfl (c_X_imageAt k σ) ?_
  by_cases h : 0 ≤ k ∧ k < 2
  · rw [if_pos h] at hf
    by_cases hk : k = 0
    · rw [if_pos hk] at hf
      rw [show imR k = some 47 from by unfold imR; rw [if_pos h, if_pos hk]]
      refine run_seg (k := 6) (s' := (17, [some (vR 0), some (vI k), some (vR 47)], [vR 6, vR 47], σ)) rfl ?_
      refine run_callV (m := 81) (as := [vR 47, vR 6]) (pc := 20) (ls := [some (vR 0), some (vI k), some (vR 47)]) (st' := []) (σ := σ) hf rfl (fun _ h => (c_State_copyFrom_47_6 h).mono (by decide)) (fun σ1 hf => ?_)
      refine run_seg (k := 4) (s' := (26, [some (vR 0), some (vI k), some (vR 47)], [vI 1], upS σ1 47 3 1)) rfl ?_
      exact run_ret hf rfl
    · rw [if_neg hk] at hf
      rw [show imR k = some 67 from by unfold imR; rw [if_pos h, if_neg hk]]
      refine run_seg (k := 6) (s' := (17, [some (vR 0), some (vI k), some (vR 67)], [vR 6, vR 67], σ)) rfl ?_
      refine run_callV (m := 81) (as := [vR 67, vR 6]) (pc := 20) (ls := [some (vR 0), some (vI k), some (vR 67)]) (st' := []) (σ := σ) hf rfl (fun _ h => (c_State_copyFrom_67_6 h).mono (by decide)) (fun σ1 hf => ?_)
      refine run_seg (k := 4) (s' := (26, [some (vR 0), some (vI k), some (vR 67)], [vI 1], upS σ1 67 3 1)) rfl ?_
      exact run_ret hf rfl
  · rw [if_neg h] at hf
    rw [show imR k = none from if_neg h]
    refine run_seg (k := 4) (s' := (11, [some (vR 0), some (vI k), some vN], [vI 0], σ)) rfl ?_
    exact run_ret hf rfl
theorem c_X_restore {k : Int} {σ : xSt} {r : Int × xSt} (hf : f_X_restore k σ = some r) : Call 3 204 [vR 0, vI k] σ (tIW r).1 (tIW r).2 := by
  unfold f_X_restore at hf
  refine call_of (d := 2) (own := 11) (rk := 2) (cd := kX11_restore) (ls := [some (vR 0), some (vI k), none]) (rT := tIW) rfl rfl rfl rfl rfl ?_
  refine run_seg (k := 2) (s' := (2, [some (vR 0), some (vI k), none], [vI k, vR 0], σ)) rfl ?_
  refine run_callR (m := 205) (as := [vR 0, vI k]) (pc := 5) (ls := [some (vR 0), some (vI k), none]) (st' := []) (v := some (.inr (.inr (imR k)))) rfl (c_X_imageAt k σ) ?_
  by_cases h : 0 ≤ k ∧ k < 2
  · rw [if_pos h] at hf
    by_cases hk : k = 0
    · rw [if_pos hk] at hf
      rw [show imR k = some 47 from by unfold imR; rw [if_pos h, if_pos hk]]
      refine run_seg (k := 6) (s' := (if σ 47 3 = 0 then (17, [some (vR 0), some (vI k), some (vR 47)], [], σ) else (19, [some (vR 0), some (vI k), some (vR 47)], [], σ))) rfl ?_
      refine run_ite hf (fun _ hf => ?_) (fun _ hf => ?_)
      · refine run_seg (k := 1) (s' := (18, [some (vR 0), some (vI k), some (vR 47)], [vI 0], σ)) rfl ?_
        exact run_ret hf rfl
      · refine run_seg (k := 3) (s' := (24, [some (vR 0), some (vI k), some (vR 47)], [vR 47, vR 6], σ)) rfl ?_
        refine run_callV (m := 81) (as := [vR 6, vR 47]) (pc := 27) (ls := [some (vR 0), some (vI k), some (vR 47)]) (st' := []) (σ := σ) hf rfl (fun _ h => (c_State_copyFrom_6_47 h).mono (by decide)) (fun σ1 hf => ?_)
        refine run_seg (k := 1) (s' := (28, [some (vR 0), some (vI k), some (vR 47)], [vI 1], σ1)) rfl ?_
        exact run_ret hf rfl
    · rw [if_neg hk] at hf
      rw [show imR k = some 67 from by unfold imR; rw [if_pos h, if_neg hk]]
      refine run_seg (k := 6) (s' := (if σ 67 3 = 0 then (17, [some (vR 0), some (vI k), some (vR 67)], [], σ) else (19, [some (vR 0), some (vI k), some (vR 67)], [], σ))) rfl ?_
      refine run_ite hf (fun _ hf => ?_) (fun _ hf => ?_)
      · refine run_seg (k := 1) (s' := (18, [some (vR 0), some (vI k), some (vR 67)], [vI 0], σ)) rfl ?_
        exact run_ret hf rfl
      · refine run_seg (k := 3) (s' := (24, [some (vR 0), some (vI k), some (vR 67)], [vR 67, vR 6], σ)) rfl ?_
        refine run_callV (m := 81) (as := [vR 6, vR 67]) (pc := 27) (ls := [some (vR 0), some (vI k), some (vR 67)]) (st' := []) (σ := σ) hf rfl (fun _ h => (c_State_copyFrom_6_67 h).mono (by decide)) (fun σ1 hf => ?_)
        refine run_seg (k := 1) (s' := (28, [some (vR 0), some (vI k), some (vR 67)], [vI 1], σ1)) rfl ?_
        exact run_ret hf rfl
  · rw [if_neg h] at hf
    rw [show imR k = none from if_neg h]
    refine run_seg (k := 4) (s' := (18, [some (vR 0), some (vI k), some vN], [vI 0], σ)) rfl ?_
    exact run_ret hf rfl
