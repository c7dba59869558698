/-! printed by wip/whole/all16.py: what the methods compute, and that the reader does so -/
def f_M_areLike_2 : Nat → Int → Int → Int → xSt → Option (Int)
  | 0, _, _, _, _ => none
  | n + 1, l1, l2, l3, σ =>
    if l3 < 7 then (if 0 ≤ w32 ((w32 (7 * l1)) + l3) ∧ w32 ((w32 (7 * l1)) + l3) < 49 then (
    if 0 ≤ w32 ((w32 (7 * l2)) + l3) ∧ w32 ((w32 (7 * l2)) + l3) < 49 then (
    if xlc (σ 123 (w32 ((w32 (7 * l1)) + l3)).toNat) (σ 123 (w32 ((w32 (7 * l2)) + l3)).toNat) = 0 then (xlet (w32 (l3 + 1)) fun x1 =>
    f_M_areLike_2 n l1 l2 x1 σ)
    else (some 0)) else none) else none)
    else (some 1)
/-- BentPennyModel.areLike(II)Z -/
def f_M_areLike (p1 : Int) (p2 : Int) (σ : xSt) : Option (Int) :=
  f_M_areLike_2 1000000 p1 p2 0 σ
theorem r_M_areLike_2 : ∀ (n : Nat) {l1 : Int} {l2 : Int} {l3 : Int} {σ : xSt} {r : Int}, f_M_areLike_2 n l1 l2 l3 σ = some r → Run 0 12 2 kX12_areLike (2, [some (vR 111), some (vI l1), some (vI l2), some (vI l3)], [], σ) ((tI σ) r) := by
  intro n
  induction n with
  | zero =>
    intro _ _ _ _ _ h
    exact nomatch (show (none : Option (Int)) = some _ from h)
  | succ n ih =>
    intro l1 l2 l3 σ r hf
    unfold f_M_areLike_2 at hf
    refine run_seg (k := 3) (s' := (if l3 < 7 then (8, [some (vR 111), some (vI l1), some (vI l2), some (vI l3)], [], σ) else (42, [some (vR 111), some (vI l1), some (vI l2), some (vI l3)], [], σ))) rfl ?_
    refine run_ite hf (fun _ hf => ?_) (fun _ hf => ?_)
    · refine run_seg (k := 7) (s' := (18, [some (vR 111), some (vI l1), some (vI l2), some (vI l3)], [vI (w32 ((w32 (7 * l1)) + l3)), vR 123], σ)) rfl ?_
      refine run_guard (s' := (19, [some (vR 111), some (vI l1), some (vI l2), some (vI l3)], [vL (σ 123 (w32 ((w32 (7 * l1)) + l3)).toNat)], σ)) hf rfl (fun hf => ?_)
      refine run_seg (k := 7) (s' := (29, [some (vR 111), some (vI l1), some (vI l2), some (vI l3)], [vI (w32 ((w32 (7 * l2)) + l3)), vR 123, vL (σ 123 (w32 ((w32 (7 * l1)) + l3)).toNat)], σ)) rfl ?_
      refine run_guard (s' := (30, [some (vR 111), some (vI l1), some (vI l2), some (vI l3)], [vL (σ 123 (w32 ((w32 (7 * l2)) + l3)).toNat), vL (σ 123 (w32 ((w32 (7 * l1)) + l3)).toNat)], σ)) hf rfl (fun hf => ?_)
      refine run_seg (k := 2) (s' := (if xlc (σ 123 (w32 ((w32 (7 * l1)) + l3)).toNat) (σ 123 (w32 ((w32 (7 * l2)) + l3)).toNat) = 0 then (36, [some (vR 111), some (vI l1), some (vI l2), some (vI l3)], [], σ) else (34, [some (vR 111), some (vI l1), some (vI l2), some (vI l3)], [], σ))) rfl ?_
      refine run_ite hf (fun _ hf => ?_) (fun _ hf => ?_)
      · refine run_seg (k := 1) (s' := (39, [some (vR 111), some (vI l1), some (vI l2), some (vI (w32 (l3 + 1)))], [], σ)) rfl ?_
        refine run_let (fun x1 => (39, [some (vR 111), some (vI l1), some (vI l2), some (vI x1)], [], σ)) hf (fun x1 hf => ?_)
        refine run_seg (k := 1) (s' := (2, [some (vR 111), some (vI l1), some (vI l2), some (vI x1)], [], σ)) rfl ?_
        exact ih hf
      · refine run_seg (k := 1) (s' := (35, [some (vR 111), some (vI l1), some (vI l2), some (vI l3)], [vI 0], σ)) rfl ?_
        exact run_ret hf rfl
    · refine run_seg (k := 1) (s' := (43, [some (vR 111), some (vI l1), some (vI l2), some (vI l3)], [vI 1], σ)) rfl ?_
      exact run_ret hf rfl
theorem c_M_areLike {p1 : Int} {p2 : Int} {σ : xSt} {r : Int} (hf : f_M_areLike p1 p2 σ = some r) : Call (0 + 1) 280 [vR 111, vI p1, vI p2] σ ((tI σ) r).1 ((tI σ) r).2 := by
  unfold f_M_areLike at hf
  refine call_of (own := 12) (rk := 2) (cd := kX12_areLike) (ls := [some (vR 111), some (vI p1), some (vI p2), none]) (rT := (tI σ)) rfl rfl rfl rfl rfl ?_
  refine run_seg (k := 2) (s' := (2, [some (vR 111), some (vI p1), some (vI p2), some (vI 0)], [], σ)) rfl ?_
  exact r_M_areLike_2 1000000 hf
def f_M_comes_2 : Nat → Int → Int → xSt → Option (Int)
  | 0, _, _, _ => none
  | n + 1, l1, l2, σ =>
    if l2 < 7 then (if 0 ≤ w32 ((w32 (7 * l1)) + l2) ∧ w32 ((w32 (7 * l1)) + l2) < 49 then (
    if xlc (σ 123 (w32 ((w32 (7 * l1)) + l2)).toNat) 0 = 0 then (xlet (w32 (l2 + 1)) fun x1 =>
    f_M_comes_2 n l1 x1 σ)
    else (some 1)) else none)
    else (some 0)
/-- BentPennyModel.comes(I)Z -/
def f_M_comes (p1 : Int) (σ : xSt) : Option (Int) :=
  f_M_comes_2 1000000 p1 0 σ
theorem r_M_comes_2 : ∀ (n : Nat) {l1 : Int} {l2 : Int} {σ : xSt} {r : Int}, f_M_comes_2 n l1 l2 σ = some r → Run 0 12 2 kX12_comes (2, [some (vR 111), some (vI l1), some (vI l2)], [], σ) ((tI σ) r) := by
  intro n
  induction n with
  | zero =>
    intro _ _ _ _ h
    exact nomatch (show (none : Option (Int)) = some _ from h)
  | succ n ih =>
    intro l1 l2 σ r hf
    unfold f_M_comes_2 at hf
    refine run_seg (k := 3) (s' := (if l2 < 7 then (8, [some (vR 111), some (vI l1), some (vI l2)], [], σ) else (32, [some (vR 111), some (vI l1), some (vI l2)], [], σ))) rfl ?_
    refine run_ite hf (fun _ hf => ?_) (fun _ hf => ?_)
    · refine run_seg (k := 7) (s' := (18, [some (vR 111), some (vI l1), some (vI l2)], [vI (w32 ((w32 (7 * l1)) + l2)), vR 123], σ)) rfl ?_
      refine run_guard (s' := (19, [some (vR 111), some (vI l1), some (vI l2)], [vL (σ 123 (w32 ((w32 (7 * l1)) + l2)).toNat)], σ)) hf rfl (fun hf => ?_)
      refine run_seg (k := 3) (s' := (if xlc (σ 123 (w32 ((w32 (7 * l1)) + l2)).toNat) 0 = 0 then (26, [some (vR 111), some (vI l1), some (vI l2)], [], σ) else (24, [some (vR 111), some (vI l1), some (vI l2)], [], σ))) rfl ?_
      refine run_ite hf (fun _ hf => ?_) (fun _ hf => ?_)
      · refine run_seg (k := 1) (s' := (29, [some (vR 111), some (vI l1), some (vI (w32 (l2 + 1)))], [], σ)) rfl ?_
        refine run_let (fun x1 => (29, [some (vR 111), some (vI l1), some (vI x1)], [], σ)) hf (fun x1 hf => ?_)
        refine run_seg (k := 1) (s' := (2, [some (vR 111), some (vI l1), some (vI x1)], [], σ)) rfl ?_
        exact ih hf
      · refine run_seg (k := 1) (s' := (25, [some (vR 111), some (vI l1), some (vI l2)], [vI 1], σ)) rfl ?_
        exact run_ret hf rfl
    · refine run_seg (k := 1) (s' := (33, [some (vR 111), some (vI l1), some (vI l2)], [vI 0], σ)) rfl ?_
      exact run_ret hf rfl
theorem c_M_comes {p1 : Int} {σ : xSt} {r : Int} (hf : f_M_comes p1 σ = some r) : Call (0 + 1) 281 [vR 111, vI p1] σ ((tI σ) r).1 ((tI σ) r).2 := by
  unfold f_M_comes at hf
  refine call_of (own := 12) (rk := 2) (cd := kX12_comes) (ls := [some (vR 111), some (vI p1), none]) (rT := (tI σ)) rfl rfl rfl rfl rfl ?_
  refine run_seg (k := 2) (s' := (2, [some (vR 111), some (vI p1), some (vI 0)], [], σ)) rfl ?_
  exact r_M_comes_2 1000000 hf
/-- BentPennyModel.like(II)I -/
def f_M_like (p1 : Int) (p2 : Int) (σ : xSt) : Option (Int × xSt) :=
  xlet (upS σ 111 0 0) fun σ1 =>
  xbR (f_M_isEnd p1 σ1) fun r2 =>
  if r2 = 0 then (some ((-1), σ1))
  else (xbR (f_M_isEnd p2 σ1) fun r3 =>
  if r3 = 0 then (some ((-1), σ1))
  else (xbR (f_M_hasWay σ1) fun r4 =>
  if r4 = 0 then (some ((-1), σ1))
  else (xbR (f_M_layPowers σ1) fun σ5 =>
  xbR (f_M_areLike p1 p2 σ5) fun r6 =>
  if r6 = 0 then (some (0, σ5))
  else (some (1, σ5)))))
theorem c_M_like {p1 : Int} {p2 : Int} {σ : xSt} {r : Int × xSt} (hf : f_M_like p1 p2 σ = some r) : Call (62 + 1) 282 [vR 111, vI p1, vI p2] σ (tIW r).1 (tIW r).2 := by
  unfold f_M_like at hf
  refine call_of (own := 12) (rk := 1) (cd := kX12_like) (ls := [some (vR 111), some (vI p1), some (vI p2)]) (rT := tIW) rfl rfl rfl rfl rfl ?_
  refine run_seg (k := 3) (s' := (5, [some (vR 111), some (vI p1), some (vI p2)], [], upS σ 111 0 0)) rfl ?_
  refine run_let (fun σ1 => (5, [some (vR 111), some (vI p1), some (vI p2)], [], σ1)) hf (fun σ1 hf => ?_)
  refine run_seg (k := 2) (s' := (7, [some (vR 111), some (vI p1), some (vI p2)], [vI p1, vR 111], σ1)) rfl ?_
  refine run_callN (w := fun a => some (vI a)) (m := 248) (as := [vR 111, vI p1]) (pc := 10) (ls := [some (vR 111), some (vI p1), some (vI p2)]) (st' := []) (σ := σ1) hf rfl (fun _ h => (c_M_isEnd h).mono (by decide)) (fun r2 hf => ?_)
  refine run_seg (k := 1) (s' := (if r2 = 0 then (28, [some (vR 111), some (vI p1), some (vI p2)], [], σ1) else (13, [some (vR 111), some (vI p1), some (vI p2)], [], σ1))) rfl ?_
  refine run_ite hf (fun _ hf => ?_) (fun _ hf => ?_)
  · refine run_seg (k := 1) (s' := (29, [some (vR 111), some (vI p1), some (vI p2)], [vI (-1)], σ1)) rfl ?_
    exact run_ret hf rfl
  · refine run_seg (k := 2) (s' := (15, [some (vR 111), some (vI p1), some (vI p2)], [vI p2, vR 111], σ1)) rfl ?_
    refine run_callN (w := fun a => some (vI a)) (m := 248) (as := [vR 111, vI p2]) (pc := 18) (ls := [some (vR 111), some (vI p1), some (vI p2)]) (st' := []) (σ := σ1) hf rfl (fun _ h => (c_M_isEnd h).mono (by decide)) (fun r3 hf => ?_)
    refine run_seg (k := 1) (s' := (if r3 = 0 then (28, [some (vR 111), some (vI p1), some (vI p2)], [], σ1) else (21, [some (vR 111), some (vI p1), some (vI p2)], [], σ1))) rfl ?_
    refine run_ite hf (fun _ hf => ?_) (fun _ hf => ?_)
    · refine run_seg (k := 1) (s' := (29, [some (vR 111), some (vI p1), some (vI p2)], [vI (-1)], σ1)) rfl ?_
      exact run_ret hf rfl
    · refine run_seg (k := 1) (s' := (22, [some (vR 111), some (vI p1), some (vI p2)], [vR 111], σ1)) rfl ?_
      refine run_callN (w := fun a => some (vI a)) (m := 263) (as := [vR 111]) (pc := 25) (ls := [some (vR 111), some (vI p1), some (vI p2)]) (st' := []) (σ := σ1) hf rfl (fun _ h => (c_M_hasWay h).mono (by decide)) (fun r4 hf => ?_)
      refine run_seg (k := 1) (s' := (if r4 = 0 then (28, [some (vR 111), some (vI p1), some (vI p2)], [], σ1) else (30, [some (vR 111), some (vI p1), some (vI p2)], [], σ1))) rfl ?_
      refine run_ite hf (fun _ hf => ?_) (fun _ hf => ?_)
      · refine run_seg (k := 1) (s' := (29, [some (vR 111), some (vI p1), some (vI p2)], [vI (-1)], σ1)) rfl ?_
        exact run_ret hf rfl
      · refine run_seg (k := 1) (s' := (31, [some (vR 111), some (vI p1), some (vI p2)], [vR 111], σ1)) rfl ?_
        refine run_callV (m := 278) (as := [vR 111]) (pc := 34) (ls := [some (vR 111), some (vI p1), some (vI p2)]) (st' := []) (σ := σ1) hf rfl (fun _ h => (c_M_layPowers h).mono (by decide)) (fun σ5 hf => ?_)
        refine run_seg (k := 3) (s' := (37, [some (vR 111), some (vI p1), some (vI p2)], [vI p2, vI p1, vR 111], σ5)) rfl ?_
        refine run_callN (w := fun a => some (vI a)) (m := 280) (as := [vR 111, vI p1, vI p2]) (pc := 40) (ls := [some (vR 111), some (vI p1), some (vI p2)]) (st' := []) (σ := σ5) hf rfl (fun _ h => (c_M_areLike h).mono (by decide)) (fun r6 hf => ?_)
        refine run_seg (k := 1) (s' := (if r6 = 0 then (47, [some (vR 111), some (vI p1), some (vI p2)], [], σ5) else (43, [some (vR 111), some (vI p1), some (vI p2)], [], σ5))) rfl ?_
        refine run_ite hf (fun _ hf => ?_) (fun _ hf => ?_)
        · refine run_seg (k := 1) (s' := (48, [some (vR 111), some (vI p1), some (vI p2)], [vI 0], σ5)) rfl ?_
          exact run_ret hf rfl
        · refine run_seg (k := 2) (s' := (48, [some (vR 111), some (vI p1), some (vI p2)], [vI 1], σ5)) rfl ?_
          exact run_ret hf rfl
def f_M_even_27 : Nat → Int → xSt → Option (Int × xSt)
  | 0, _, _ => none
  | n + 1, l1, σ =>
    xbR (f_M_ends σ) fun r5 =>
    if l1 < r5 then (xbR (f_M_areLike 0 l1 σ) fun r6 =>
    if r6 = 0 then (some (0, σ))
    else (xbR (f_M_comes l1 σ) fun r7 =>
    if r7 = 0 then (some (0, σ))
    else (xlet (w32 (l1 + 1)) fun x8 =>
    f_M_even_27 n x8 σ)))
    else (some (1, σ))
/-- BentPennyModel.even()I -/
def f_M_even (σ : xSt) : Option (Int × xSt) :=
  xlet (upS σ 111 0 0) fun σ1 =>
  xbR (f_M_hasWay σ1) fun r2 =>
  if r2 = 0 then (some ((-1), σ1))
  else (xbR (f_M_ends σ1) fun r3 =>
  if r3 = 0 then (some ((-1), σ1))
  else (xbR (f_M_layPowers σ1) fun σ4 =>
  f_M_even_27 1000000 0 σ4))
theorem r_M_even_27 : ∀ (n : Nat) {l1 : Int} {σ : xSt} {r : Int × xSt}, f_M_even_27 n l1 σ = some r → Run 62 12 1 kX12_even (27, [some (vR 111), some (vI l1)], [], σ) (tIW r) := by
  intro n
  induction n with
  | zero =>
    intro _ _ _ h
    exact nomatch (show (none : Option (Int × xSt)) = some _ from h)
  | succ n ih =>
    intro l1 σ r hf
    unfold f_M_even_27 at hf
    refine run_seg (k := 2) (s' := (29, [some (vR 111), some (vI l1)], [vR 111, vI l1], σ)) rfl ?_
    refine run_callN (w := fun a => some (vI a)) (m := 246) (as := [vR 111]) (pc := 32) (ls := [some (vR 111), some (vI l1)]) (st' := [vI l1]) (σ := σ) hf rfl (fun _ h => (c_M_ends h).mono (by decide)) (fun r5 hf => ?_)
    refine run_seg (k := 1) (s' := (if l1 < r5 then (35, [some (vR 111), some (vI l1)], [], σ) else (60, [some (vR 111), some (vI l1)], [], σ))) rfl ?_
    refine run_ite hf (fun _ hf => ?_) (fun _ hf => ?_)
    · refine run_seg (k := 3) (s' := (38, [some (vR 111), some (vI l1)], [vI l1, vI 0, vR 111], σ)) rfl ?_
      refine run_callN (w := fun a => some (vI a)) (m := 280) (as := [vR 111, vI 0, vI l1]) (pc := 41) (ls := [some (vR 111), some (vI l1)]) (st' := []) (σ := σ) hf rfl (fun _ h => (c_M_areLike h).mono (by decide)) (fun r6 hf => ?_)
      refine run_seg (k := 1) (s' := (if r6 = 0 then (52, [some (vR 111), some (vI l1)], [], σ) else (44, [some (vR 111), some (vI l1)], [], σ))) rfl ?_
      refine run_ite hf (fun _ hf => ?_) (fun _ hf => ?_)
      · refine run_seg (k := 1) (s' := (53, [some (vR 111), some (vI l1)], [vI 0], σ)) rfl ?_
        exact run_ret hf rfl
      · refine run_seg (k := 2) (s' := (46, [some (vR 111), some (vI l1)], [vI l1, vR 111], σ)) rfl ?_
        refine run_callN (w := fun a => some (vI a)) (m := 281) (as := [vR 111, vI l1]) (pc := 49) (ls := [some (vR 111), some (vI l1)]) (st' := []) (σ := σ) hf rfl (fun _ h => (c_M_comes h).mono (by decide)) (fun r7 hf => ?_)
        refine run_seg (k := 1) (s' := (if r7 = 0 then (52, [some (vR 111), some (vI l1)], [], σ) else (54, [some (vR 111), some (vI l1)], [], σ))) rfl ?_
        refine run_ite hf (fun _ hf => ?_) (fun _ hf => ?_)
        · refine run_seg (k := 1) (s' := (53, [some (vR 111), some (vI l1)], [vI 0], σ)) rfl ?_
          exact run_ret hf rfl
        · refine run_seg (k := 1) (s' := (57, [some (vR 111), some (vI (w32 (l1 + 1)))], [], σ)) rfl ?_
          refine run_let (fun x8 => (57, [some (vR 111), some (vI x8)], [], σ)) hf (fun x8 hf => ?_)
          refine run_seg (k := 1) (s' := (27, [some (vR 111), some (vI x8)], [], σ)) rfl ?_
          exact ih hf
    · refine run_seg (k := 1) (s' := (61, [some (vR 111), some (vI l1)], [vI 1], σ)) rfl ?_
      exact run_ret hf rfl
theorem c_M_even {σ : xSt} {r : Int × xSt} (hf : f_M_even σ = some r) : Call (62 + 1) 283 [vR 111] σ (tIW r).1 (tIW r).2 := by
  unfold f_M_even at hf
  refine call_of (own := 12) (rk := 1) (cd := kX12_even) (ls := [some (vR 111), none]) (rT := tIW) rfl rfl rfl rfl rfl ?_
  refine run_seg (k := 3) (s' := (5, [some (vR 111), none], [], upS σ 111 0 0)) rfl ?_
  refine run_let (fun σ1 => (5, [some (vR 111), none], [], σ1)) hf (fun σ1 hf => ?_)
  refine run_seg (k := 1) (s' := (6, [some (vR 111), none], [vR 111], σ1)) rfl ?_
  refine run_callN (w := fun a => some (vI a)) (m := 263) (as := [vR 111]) (pc := 9) (ls := [some (vR 111), none]) (st' := []) (σ := σ1) hf rfl (fun _ h => (c_M_hasWay h).mono (by decide)) (fun r2 hf => ?_)
  refine run_seg (k := 1) (s' := (if r2 = 0 then (19, [some (vR 111), none], [], σ1) else (12, [some (vR 111), none], [], σ1))) rfl ?_
  refine run_ite hf (fun _ hf => ?_) (fun _ hf => ?_)
  · refine run_seg (k := 1) (s' := (20, [some (vR 111), none], [vI (-1)], σ1)) rfl ?_
    exact run_ret hf rfl
  · refine run_seg (k := 1) (s' := (13, [some (vR 111), none], [vR 111], σ1)) rfl ?_
    refine run_callN (w := fun a => some (vI a)) (m := 246) (as := [vR 111]) (pc := 16) (ls := [some (vR 111), none]) (st' := []) (σ := σ1) hf rfl (fun _ h => (c_M_ends h).mono (by decide)) (fun r3 hf => ?_)
    refine run_seg (k := 1) (s' := (if r3 = 0 then (19, [some (vR 111), none], [], σ1) else (21, [some (vR 111), none], [], σ1))) rfl ?_
    refine run_ite hf (fun _ hf => ?_) (fun _ hf => ?_)
    · refine run_seg (k := 1) (s' := (20, [some (vR 111), none], [vI (-1)], σ1)) rfl ?_
      exact run_ret hf rfl
    · refine run_seg (k := 1) (s' := (22, [some (vR 111), none], [vR 111], σ1)) rfl ?_
      refine run_callV (m := 278) (as := [vR 111]) (pc := 25) (ls := [some (vR 111), none]) (st' := []) (σ := σ1) hf rfl (fun _ h => (c_M_layPowers h).mono (by decide)) (fun σ4 hf => ?_)
      refine run_seg (k := 2) (s' := (27, [some (vR 111), some (vI 0)], [], σ4)) rfl ?_
      exact r_M_even_27 1000000 hf
def f_M_whyNot_70 (l2 : Int) (σ : xSt) : Option (Int × xSt) :=
  xlet (upS σ 111 40 0) fun σ6 =>
  xlet (upS σ6 111 38 (w32 ((σ6 111 38) + 1))) fun σ7 =>
  xbR (f_M_nextOf (σ7 111 34) l2 σ7) fun r8 =>
  xlet (upS σ7 111 34 r8) fun σ9 =>
  xbR (f_M_sortOf (σ9 111 34) σ9) fun r10 =>
  if r10 = 1 then (xlet (upS σ9 111 34 0) fun σ11 =>
  xlet (upS σ11 111 40 1) fun σ12 =>
  some (0, σ12))
  else (some (0, σ9))
/-- BentPennyModel.whyNot(II)I -/
def f_M_whyNot (p1 : Int) (p2 : Int) (σ : xSt) : Option (Int × xSt) :=
  xbR (f_M_sortOf (σ 111 34) σ) fun r1 =>
  if r1 = 0 then (some (1, σ))
  else (xbR (f_M_sortOf (σ 111 34) σ) fun r2 =>
  if r2 = 1 then (some (2, σ))
  else (xbR (f_M_whichOf (σ 111 34) σ) fun r3 =>
  if r3 = p1 then (xbR (f_M_sidesOf p1 σ) fun r4 =>
  if p2 < r4 then (if σ 111 40 = 0 then (f_M_whyNot_70 p2 σ)
  else (xlet (upS σ 111 39 (w32 ((σ 111 39) + 1))) fun σ5 =>
  f_M_whyNot_70 p2 σ5))
  else (some (3, σ)))
  else (some (2, σ))))
theorem r_M_whyNot_70 {l2 : Int} {g1 : Option xV} {σ : xSt} {r : Int × xSt} (hf : f_M_whyNot_70 l2 σ = some r) : Run 1 12 1 kX12_whyNot (70, [some (vR 111), g1, some (vI l2)], [], σ) (tIW r) := by
  unfold f_M_whyNot_70 at hf
  refine run_seg (k := 3) (s' := (75, [some (vR 111), g1, some (vI l2)], [], upS σ 111 40 0)) rfl ?_
  refine run_let (fun σ6 => (75, [some (vR 111), g1, some (vI l2)], [], σ6)) hf (fun σ6 hf => ?_)
  refine run_seg (k := 6) (s' := (85, [some (vR 111), g1, some (vI l2)], [], upS σ6 111 38 (w32 ((σ6 111 38) + 1)))) rfl ?_
  refine run_let (fun σ7 => (85, [some (vR 111), g1, some (vI l2)], [], σ7)) hf (fun σ7 hf => ?_)
  refine run_seg (k := 5) (s' := (92, [some (vR 111), g1, some (vI l2)], [vI l2, vI (σ7 111 34), vR 111, vR 111], σ7)) rfl ?_
  refine run_callN (w := fun a => some (vI a)) (m := 259) (as := [vR 111, vI (σ7 111 34), vI l2]) (pc := 95) (ls := [some (vR 111), g1, some (vI l2)]) (st' := [vR 111]) (σ := σ7) hf rfl (fun _ h => (c_M_nextOf h).mono (by decide)) (fun r8 hf => ?_)
  refine run_seg (k := 1) (s' := (98, [some (vR 111), g1, some (vI l2)], [], upS σ7 111 34 r8)) rfl ?_
  refine run_let (fun σ9 => (98, [some (vR 111), g1, some (vI l2)], [], σ9)) hf (fun σ9 hf => ?_)
  refine run_seg (k := 3) (s' := (103, [some (vR 111), g1, some (vI l2)], [vI (σ9 111 34), vR 111], σ9)) rfl ?_
  refine run_callN (w := fun a => some (vI a)) (m := 257) (as := [vR 111, vI (σ9 111 34)]) (pc := 106) (ls := [some (vR 111), g1, some (vI l2)]) (st' := []) (σ := σ9) hf rfl (fun _ h => (c_M_sortOf h).mono (by decide)) (fun r10 hf => ?_)
  refine run_seg (k := 2) (s' := (if r10 = 1 then (110, [some (vR 111), g1, some (vI l2)], [], σ9) else (120, [some (vR 111), g1, some (vI l2)], [], σ9))) rfl ?_
  refine run_ite hf (fun _ hf => ?_) (fun _ hf => ?_)
  · refine run_seg (k := 3) (s' := (115, [some (vR 111), g1, some (vI l2)], [], upS σ9 111 34 0)) rfl ?_
    refine run_let (fun σ11 => (115, [some (vR 111), g1, some (vI l2)], [], σ11)) hf (fun σ11 hf => ?_)
    refine run_seg (k := 3) (s' := (120, [some (vR 111), g1, some (vI l2)], [], upS σ11 111 40 1)) rfl ?_
    refine run_let (fun σ12 => (120, [some (vR 111), g1, some (vI l2)], [], σ12)) hf (fun σ12 hf => ?_)
    refine run_seg (k := 1) (s' := (121, [some (vR 111), g1, some (vI l2)], [vI 0], σ12)) rfl ?_
    exact run_ret hf rfl
  · refine run_seg (k := 1) (s' := (121, [some (vR 111), g1, some (vI l2)], [vI 0], σ9)) rfl ?_
    exact run_ret hf rfl
theorem c_M_whyNot {p1 : Int} {p2 : Int} {σ : xSt} {r : Int × xSt} (hf : f_M_whyNot p1 p2 σ = some r) : Call (1 + 1) 284 [vR 111, vI p1, vI p2] σ (tIW r).1 (tIW r).2 := by
  unfold f_M_whyNot at hf
  refine call_of (own := 12) (rk := 1) (cd := kX12_whyNot) (ls := [some (vR 111), some (vI p1), some (vI p2)]) (rT := tIW) rfl rfl rfl rfl rfl ?_
  refine run_seg (k := 3) (s' := (5, [some (vR 111), some (vI p1), some (vI p2)], [vI (σ 111 34), vR 111], σ)) rfl ?_
  refine run_callN (w := fun a => some (vI a)) (m := 257) (as := [vR 111, vI (σ 111 34)]) (pc := 8) (ls := [some (vR 111), some (vI p1), some (vI p2)]) (st' := []) (σ := σ) hf rfl (fun _ h => (c_M_sortOf h).mono (by decide)) (fun r1 hf => ?_)
  refine run_seg (k := 1) (s' := (if r1 = 0 then (11, [some (vR 111), some (vI p1), some (vI p2)], [], σ) else (13, [some (vR 111), some (vI p1), some (vI p2)], [], σ))) rfl ?_
  refine run_ite hf (fun _ hf => ?_) (fun _ hf => ?_)
  · refine run_seg (k := 1) (s' := (12, [some (vR 111), some (vI p1), some (vI p2)], [vI 1], σ)) rfl ?_
    exact run_ret hf rfl
  · refine run_seg (k := 3) (s' := (18, [some (vR 111), some (vI p1), some (vI p2)], [vI (σ 111 34), vR 111], σ)) rfl ?_
    refine run_callN (w := fun a => some (vI a)) (m := 257) (as := [vR 111, vI (σ 111 34)]) (pc := 21) (ls := [some (vR 111), some (vI p1), some (vI p2)]) (st' := []) (σ := σ) hf rfl (fun _ h => (c_M_sortOf h).mono (by decide)) (fun r2 hf => ?_)
    refine run_seg (k := 2) (s' := (if r2 = 1 then (37, [some (vR 111), some (vI p1), some (vI p2)], [], σ) else (25, [some (vR 111), some (vI p1), some (vI p2)], [], σ))) rfl ?_
    refine run_ite hf (fun _ hf => ?_) (fun _ hf => ?_)
    · refine run_seg (k := 1) (s' := (38, [some (vR 111), some (vI p1), some (vI p2)], [vI 2], σ)) rfl ?_
      exact run_ret hf rfl
    · refine run_seg (k := 3) (s' := (30, [some (vR 111), some (vI p1), some (vI p2)], [vI (σ 111 34), vR 111], σ)) rfl ?_
      refine run_callN (w := fun a => some (vI a)) (m := 258) (as := [vR 111, vI (σ 111 34)]) (pc := 33) (ls := [some (vR 111), some (vI p1), some (vI p2)]) (st' := []) (σ := σ) hf rfl (fun _ h => (c_M_whichOf h).mono (by decide)) (fun r3 hf => ?_)
      refine run_seg (k := 2) (s' := (if r3 = p1 then (39, [some (vR 111), some (vI p1), some (vI p2)], [], σ) else (37, [some (vR 111), some (vI p1), some (vI p2)], [], σ))) rfl ?_
      refine run_ite hf (fun _ hf => ?_) (fun _ hf => ?_)
      · refine run_seg (k := 4) (s' := (45, [some (vR 111), some (vI p1), some (vI p2)], [vI p1, vR 113, vI p2], σ)) rfl ?_
        refine run_callN (w := fun a => some (vI a)) (m := 234) (as := [vR 113, vI p1]) (pc := 48) (ls := [some (vR 111), some (vI p1), some (vI p2)]) (st' := [vI p2]) (σ := σ) hf rfl (fun _ h => (c_M_sidesOf h).mono (by decide)) (fun r4 hf => ?_)
        refine run_seg (k := 1) (s' := (if p2 < r4 then (53, [some (vR 111), some (vI p1), some (vI p2)], [], σ) else (51, [some (vR 111), some (vI p1), some (vI p2)], [], σ))) rfl ?_
        refine run_ite hf (fun _ hf => ?_) (fun _ hf => ?_)
        · refine run_seg (k := 3) (s' := (if σ 111 40 = 0 then (70, [some (vR 111), some (vI p1), some (vI p2)], [], σ) else (60, [some (vR 111), some (vI p1), some (vI p2)], [], σ))) rfl ?_
          refine run_ite hf (fun _ hf => ?_) (fun _ hf => ?_)
          · exact r_M_whyNot_70 hf
          · refine run_seg (k := 6) (s' := (70, [some (vR 111), some (vI p1), some (vI p2)], [], upS σ 111 39 (w32 ((σ 111 39) + 1)))) rfl ?_
            refine run_let (fun σ5 => (70, [some (vR 111), some (vI p1), some (vI p2)], [], σ5)) hf (fun σ5 hf => ?_)
            exact r_M_whyNot_70 hf
        · refine run_seg (k := 1) (s' := (52, [some (vR 111), some (vI p1), some (vI p2)], [vI 3], σ)) rfl ?_
          exact run_ret hf rfl
      · refine run_seg (k := 1) (s' := (38, [some (vR 111), some (vI p1), some (vI p2)], [vI 2], σ)) rfl ?_
        exact run_ret hf rfl
def f_M_judgeLine_18 (s0 : Int) (σ : xSt) : Option (xSt) :=
  xlet (upS σ 111 37 s0) fun σ2 =>
  some σ2
/-- BentPennyModel.judgeLine(I)V -/
def f_M_judgeLine (p1 : Int) (σ : xSt) : Option (xSt) :=
  xlet (upS σ 111 36 p1) fun σ1 =>
  if p1 = 0 then (f_M_judgeLine_18 (-1) σ1)
  else (f_M_judgeLine_18 (σ1 111 35) σ1)
theorem r_M_judgeLine_18 {s0 : Int} {g0 : Option xV} {g1 : Option xV} {σ : xSt} {r : xSt} (hf : f_M_judgeLine_18 s0 σ = some r) : Run 0 12 0 kX12_judgeLine (18, [g0, g1], [vI s0, vR 111], σ) (tV r) := by
  unfold f_M_judgeLine_18 at hf
  refine run_seg (k := 1) (s' := (21, [g0, g1], [], upS σ 111 37 s0)) rfl ?_
  refine run_let (fun σ2 => (21, [g0, g1], [], σ2)) hf (fun σ2 hf => ?_)
  exact run_ret hf rfl
theorem c_M_judgeLine {p1 : Int} {σ : xSt} {r : xSt} (hf : f_M_judgeLine p1 σ = some r) : Call (0 + 1) 286 [vR 111, vI p1] σ (tV r).1 (tV r).2 := by
  unfold f_M_judgeLine at hf
  refine call_of (own := 12) (rk := 0) (cd := kX12_judgeLine) (ls := [some (vR 111), some (vI p1)]) (rT := tV) rfl rfl rfl rfl rfl ?_
  refine run_seg (k := 3) (s' := (5, [some (vR 111), some (vI p1)], [], upS σ 111 36 p1)) rfl ?_
  refine run_let (fun σ1 => (5, [some (vR 111), some (vI p1)], [], σ1)) hf (fun σ1 hf => ?_)
  refine run_seg (k := 3) (s' := (if p1 = 0 then (10, [some (vR 111), some (vI p1)], [vR 111], σ1) else (14, [some (vR 111), some (vI p1)], [vR 111], σ1))) rfl ?_
  refine run_ite hf (fun _ hf => ?_) (fun _ hf => ?_)
  · refine run_seg (k := 2) (s' := (18, [some (vR 111), some (vI p1)], [vI (-1), vR 111], σ1)) rfl ?_
    exact r_M_judgeLine_18 hf
  · refine run_seg (k := 2) (s' := (18, [some (vR 111), some (vI p1)], [vI (σ1 111 35), vR 111], σ1)) rfl ?_
    exact r_M_judgeLine_18 hf
def f_M_readThrow_87 (σ : xSt) : Option (Int × xSt) :=
  xlet (upS σ 111 35 (w32 ((σ 111 35) + 1))) fun σ16 =>
  some (1, σ16)
/-- BentPennyModel.readThrow()Z -/
def f_M_readThrow (σ : xSt) : Option (Int × xSt) :=
  xbR (f_M_things σ) fun r1 =>
  xbR (f_M_findIn 117 0 r1 (σ 111 12) σ) fun r2 =>
  xbR (f_M_isName σ) fun r3 =>
  if r3 = 0 then (xbW (f_M_bad 1 σ) fun r4 σ5 =>
  some (xnb r4, σ5))
  else (if r2 = (-1) then (xbW (f_M_bad 3 σ) fun r6 σ7 =>
  some (xnb r6, σ7))
  else (xbR (f_M_go σ) fun σ8 =>
  xbW (f_M_readNumber 0 999 σ8) fun r9 σ10 =>
  if r9 = 0 then (some (0, σ10))
  else (xbW (f_M_readSign 59 σ10) fun r11 σ12 =>
  if r11 = 0 then (some (0, σ12))
  else (if σ12 111 36 = 0 then (xbW (f_M_whyNot r2 (σ12 111 13) σ12) fun r13 σ14 =>
  xbR (f_M_judgeLine r13 σ14) fun σ15 =>
  f_M_readThrow_87 σ15)
  else (f_M_readThrow_87 σ12)))))
theorem r_M_readThrow_87 {g1 : Option xV} {σ : xSt} {r : Int × xSt} (hf : f_M_readThrow_87 σ = some r) : Run 3 12 2 kX12_readThrow (87, [some (vR 111), g1], [], σ) (tIW r) := by
  unfold f_M_readThrow_87 at hf
  refine run_seg (k := 6) (s' := (97, [some (vR 111), g1], [], upS σ 111 35 (w32 ((σ 111 35) + 1)))) rfl ?_
  refine run_let (fun σ16 => (97, [some (vR 111), g1], [], σ16)) hf (fun σ16 hf => ?_)
  refine run_seg (k := 1) (s' := (98, [some (vR 111), g1], [vI 1], σ16)) rfl ?_
  exact run_ret hf rfl
theorem c_M_readThrow {σ : xSt} {r : Int × xSt} (hf : f_M_readThrow σ = some r) : Call (3 + 1) 285 [vR 111] σ (tIW r).1 (tIW r).2 := by
  unfold f_M_readThrow at hf
  refine call_of (own := 12) (rk := 2) (cd := kX12_readThrow) (ls := [some (vR 111), none]) (rT := tIW) rfl rfl rfl rfl rfl ?_
  refine run_seg (k := 4) (s' := (6, [some (vR 111), none], [vR 111, vI 0, vR 117], σ)) rfl ?_
  refine run_callN (w := fun a => some (vI a)) (m := 245) (as := [vR 111]) (pc := 9) (ls := [some (vR 111), none]) (st' := [vI 0, vR 117]) (σ := σ) hf rfl (fun _ h => (c_M_things h).mono (by decide)) (fun r1 hf => ?_)
  refine run_seg (k := 2) (s' := (13, [some (vR 111), none], [vL (σ 111 12), vI r1, vI 0, vR 117], σ)) rfl ?_
  refine run_callN (w := fun a => some (vI a)) (m := 237) (as := [vR 117, vI 0, vI r1, vL (σ 111 12)]) (pc := 16) (ls := [some (vR 111), none]) (st' := []) (σ := σ) hf rfl (fun _ h => (c_M_findIn_117 h).mono (by decide)) (fun r2 hf => ?_)
  refine run_seg (k := 2) (s' := (18, [some (vR 111), some (vI r2)], [vR 111], σ)) rfl ?_
  refine run_callN (w := fun a => some (vI a)) (m := 228) (as := [vR 111]) (pc := 21) (ls := [some (vR 111), some (vI r2)]) (st' := []) (σ := σ) hf rfl (fun _ h => (c_M_isName h).mono (by decide)) (fun r3 hf => ?_)
  refine run_seg (k := 1) (s' := (if r3 = 0 then (24, [some (vR 111), some (vI r2)], [], σ) else (30, [some (vR 111), some (vI r2)], [], σ))) rfl ?_
  refine run_ite hf (fun _ hf => ?_) (fun _ hf => ?_)
  · refine run_seg (k := 2) (s' := (26, [some (vR 111), some (vI r2)], [vI 1, vR 111], σ)) rfl ?_
    refine run_callW (w := fun a => some (vI a)) (m := 229) (as := [vR 111, vI 1]) (pc := 29) (ls := [some (vR 111), some (vI r2)]) (st' := []) (σ := σ) hf rfl (fun _ _ h => (c_M_bad h).mono (by decide)) (fun r4 σ5 hf => ?_)
    exact run_ret hf rfl
  · refine run_seg (k := 3) (s' := (if r2 = (-1) then (35, [some (vR 111), some (vI r2)], [], σ) else (41, [some (vR 111), some (vI r2)], [], σ))) rfl ?_
    refine run_ite hf (fun _ hf => ?_) (fun _ hf => ?_)
    · refine run_seg (k := 2) (s' := (37, [some (vR 111), some (vI r2)], [vI 3, vR 111], σ)) rfl ?_
      refine run_callW (w := fun a => some (vI a)) (m := 229) (as := [vR 111, vI 3]) (pc := 40) (ls := [some (vR 111), some (vI r2)]) (st' := []) (σ := σ) hf rfl (fun _ _ h => (c_M_bad h).mono (by decide)) (fun r6 σ7 hf => ?_)
      exact run_ret hf rfl
    · refine run_seg (k := 1) (s' := (42, [some (vR 111), some (vI r2)], [vR 111], σ)) rfl ?_
      refine run_callV (m := 223) (as := [vR 111]) (pc := 45) (ls := [some (vR 111), some (vI r2)]) (st' := []) (σ := σ) hf rfl (fun _ h => (c_M_go h).mono (by decide)) (fun σ8 hf => ?_)
      refine run_seg (k := 3) (s' := (50, [some (vR 111), some (vI r2)], [vI 999, vI 0, vR 111], σ8)) rfl ?_
      refine run_callW (w := fun a => some (vI a)) (m := 230) (as := [vR 111, vI 0, vI 999]) (pc := 53) (ls := [some (vR 111), some (vI r2)]) (st' := []) (σ := σ8) hf rfl (fun _ _ h => (c_M_readNumber h).mono (by decide)) (fun r9 σ10 hf => ?_)
      refine run_seg (k := 1) (s' := (if r9 = 0 then (65, [some (vR 111), some (vI r2)], [], σ10) else (56, [some (vR 111), some (vI r2)], [], σ10))) rfl ?_
      refine run_ite hf (fun _ hf => ?_) (fun _ hf => ?_)
      · refine run_seg (k := 1) (s' := (66, [some (vR 111), some (vI r2)], [vI 0], σ10)) rfl ?_
        exact run_ret hf rfl
      · refine run_seg (k := 2) (s' := (59, [some (vR 111), some (vI r2)], [vI 59, vR 111], σ10)) rfl ?_
        refine run_callW (w := fun a => some (vI a)) (m := 231) (as := [vR 111, vI 59]) (pc := 62) (ls := [some (vR 111), some (vI r2)]) (st' := []) (σ := σ10) hf rfl (fun _ _ h => (c_M_readSign h).mono (by decide)) (fun r11 σ12 hf => ?_)
        refine run_seg (k := 1) (s' := (if r11 = 0 then (65, [some (vR 111), some (vI r2)], [], σ12) else (67, [some (vR 111), some (vI r2)], [], σ12))) rfl ?_
        refine run_ite hf (fun _ hf => ?_) (fun _ hf => ?_)
        · refine run_seg (k := 1) (s' := (66, [some (vR 111), some (vI r2)], [vI 0], σ12)) rfl ?_
          exact run_ret hf rfl
        · refine run_seg (k := 3) (s' := (if σ12 111 36 = 0 then (74, [some (vR 111), some (vI r2)], [], σ12) else (87, [some (vR 111), some (vI r2)], [], σ12))) rfl ?_
          refine run_ite hf (fun _ hf => ?_) (fun _ hf => ?_)
          · refine run_seg (k := 5) (s' := (81, [some (vR 111), some (vI r2)], [vI (σ12 111 13), vI r2, vR 111, vR 111], σ12)) rfl ?_
            refine run_callW (w := fun a => some (vI a)) (m := 284) (as := [vR 111, vI r2, vI (σ12 111 13)]) (pc := 84) (ls := [some (vR 111), some (vI r2)]) (st' := [vR 111]) (σ := σ12) hf rfl (fun _ _ h => (c_M_whyNot h).mono (by decide)) (fun r13 σ14 hf => ?_)
            refine run_callV (m := 286) (as := [vR 111, vI r13]) (pc := 87) (ls := [some (vR 111), some (vI r2)]) (st' := []) (σ := σ14) hf rfl (fun _ h => (c_M_judgeLine h).mono (by decide)) (fun σ15 hf => ?_)
            exact r_M_readThrow_87 hf
          · exact r_M_readThrow_87 hf
def f_M_readSo_116 (σ : xSt) : Option (Int × xSt) :=
  xlet (upS σ 111 35 (w32 ((σ 111 35) + 1))) fun σ17 =>
  some (1, σ17)
def f_M_readSo_113 (s0 : Int) (σ : xSt) : Option (Int × xSt) :=
  xbR (f_M_judgeLine s0 σ) fun σ16 =>
  f_M_readSo_116 σ16
/-- BentPennyModel.readSo()Z -/
def f_M_readSo (σ : xSt) : Option (Int × xSt) :=
  xbR (f_M_go σ) fun σ1 =>
  xbR (f_M_isName σ1) fun r2 =>
  if r2 = 0 then (xbW (f_M_bad 1 σ1) fun r3 σ4 =>
  some (xnb r3, σ4))
  else (xbR (f_M_ends σ1) fun r5 =>
  xbR (f_M_findIn 117 3 r5 (σ1 111 12) σ1) fun r6 =>
  if r6 = (-1) then (xbW (f_M_bad 3 σ1) fun r7 σ8 =>
  some (xnb r7, σ8))
  else (xbR (f_M_go σ1) fun σ9 =>
  xbW (f_M_readSign 59 σ9) fun r10 σ11 =>
  if r10 = 0 then (some (0, σ11))
  else (if σ11 111 7 = 0 then (if σ11 111 36 = 0 then (xbR (f_M_sortOf (σ11 111 34) σ11) fun r12 =>
  if r12 = 0 then (xbR (f_M_whichOf (σ11 111 34) σ11) fun r13 =>
  if r13 = r6 then (f_M_readSo_113 0 σ11)
  else (f_M_readSo_113 5 σ11))
  else (f_M_readSo_113 4 σ11))
  else (f_M_readSo_116 σ11))
  else (xbW (f_M_bad 1 σ11) fun r14 σ15 =>
  some (xnb r14, σ15)))))
theorem r_M_readSo_116 {g1 : Option xV} {σ : xSt} {r : Int × xSt} (hf : f_M_readSo_116 σ = some r) : Run 3 12 2 kX12_readSo (116, [some (vR 111), g1], [], σ) (tIW r) := by
  unfold f_M_readSo_116 at hf
  refine run_seg (k := 6) (s' := (126, [some (vR 111), g1], [], upS σ 111 35 (w32 ((σ 111 35) + 1)))) rfl ?_
  refine run_let (fun σ17 => (126, [some (vR 111), g1], [], σ17)) hf (fun σ17 hf => ?_)
  refine run_seg (k := 1) (s' := (127, [some (vR 111), g1], [vI 1], σ17)) rfl ?_
  exact run_ret hf rfl
theorem r_M_readSo_113 {s0 : Int} {g1 : Option xV} {σ : xSt} {r : Int × xSt} (hf : f_M_readSo_113 s0 σ = some r) : Run 3 12 2 kX12_readSo (113, [some (vR 111), g1], [vI s0, vR 111], σ) (tIW r) := by
  unfold f_M_readSo_113 at hf
  refine run_callV (m := 286) (as := [vR 111, vI s0]) (pc := 116) (ls := [some (vR 111), g1]) (st' := []) (σ := σ) hf rfl (fun _ h => (c_M_judgeLine h).mono (by decide)) (fun σ16 hf => ?_)
  exact r_M_readSo_116 hf
theorem c_M_readSo {σ : xSt} {r : Int × xSt} (hf : f_M_readSo σ = some r) : Call (3 + 1) 287 [vR 111] σ (tIW r).1 (tIW r).2 := by
  unfold f_M_readSo at hf
  refine call_of (own := 12) (rk := 2) (cd := kX12_readSo) (ls := [some (vR 111), none]) (rT := tIW) rfl rfl rfl rfl rfl ?_
  refine run_seg (k := 1) (s' := (1, [some (vR 111), none], [vR 111], σ)) rfl ?_
  refine run_callV (m := 223) (as := [vR 111]) (pc := 4) (ls := [some (vR 111), none]) (st' := []) (σ := σ) hf rfl (fun _ h => (c_M_go h).mono (by decide)) (fun σ1 hf => ?_)
  refine run_seg (k := 1) (s' := (5, [some (vR 111), none], [vR 111], σ1)) rfl ?_
  refine run_callN (w := fun a => some (vI a)) (m := 228) (as := [vR 111]) (pc := 8) (ls := [some (vR 111), none]) (st' := []) (σ := σ1) hf rfl (fun _ h => (c_M_isName h).mono (by decide)) (fun r2 hf => ?_)
  refine run_seg (k := 1) (s' := (if r2 = 0 then (11, [some (vR 111), none], [], σ1) else (17, [some (vR 111), none], [], σ1))) rfl ?_
  refine run_ite hf (fun _ hf => ?_) (fun _ hf => ?_)
  · refine run_seg (k := 2) (s' := (13, [some (vR 111), none], [vI 1, vR 111], σ1)) rfl ?_
    refine run_callW (w := fun a => some (vI a)) (m := 229) (as := [vR 111, vI 1]) (pc := 16) (ls := [some (vR 111), none]) (st' := []) (σ := σ1) hf rfl (fun _ _ h => (c_M_bad h).mono (by decide)) (fun r3 σ4 hf => ?_)
    exact run_ret hf rfl
  · refine run_seg (k := 4) (s' := (23, [some (vR 111), none], [vR 111, vI 3, vR 117], σ1)) rfl ?_
    refine run_callN (w := fun a => some (vI a)) (m := 246) (as := [vR 111]) (pc := 26) (ls := [some (vR 111), none]) (st' := [vI 3, vR 117]) (σ := σ1) hf rfl (fun _ h => (c_M_ends h).mono (by decide)) (fun r5 hf => ?_)
    refine run_seg (k := 2) (s' := (30, [some (vR 111), none], [vL (σ1 111 12), vI r5, vI 3, vR 117], σ1)) rfl ?_
    refine run_callN (w := fun a => some (vI a)) (m := 237) (as := [vR 117, vI 3, vI r5, vL (σ1 111 12)]) (pc := 33) (ls := [some (vR 111), none]) (st' := []) (σ := σ1) hf rfl (fun _ h => (c_M_findIn_117 h).mono (by decide)) (fun r6 hf => ?_)
    refine run_seg (k := 4) (s' := (if r6 = (-1) then (39, [some (vR 111), some (vI r6)], [], σ1) else (45, [some (vR 111), some (vI r6)], [], σ1))) rfl ?_
    refine run_ite hf (fun _ hf => ?_) (fun _ hf => ?_)
    · refine run_seg (k := 2) (s' := (41, [some (vR 111), some (vI r6)], [vI 3, vR 111], σ1)) rfl ?_
      refine run_callW (w := fun a => some (vI a)) (m := 229) (as := [vR 111, vI 3]) (pc := 44) (ls := [some (vR 111), some (vI r6)]) (st' := []) (σ := σ1) hf rfl (fun _ _ h => (c_M_bad h).mono (by decide)) (fun r7 σ8 hf => ?_)
      exact run_ret hf rfl
    · refine run_seg (k := 1) (s' := (46, [some (vR 111), some (vI r6)], [vR 111], σ1)) rfl ?_
      refine run_callV (m := 223) (as := [vR 111]) (pc := 49) (ls := [some (vR 111), some (vI r6)]) (st' := []) (σ := σ1) hf rfl (fun _ h => (c_M_go h).mono (by decide)) (fun σ9 hf => ?_)
      refine run_seg (k := 2) (s' := (52, [some (vR 111), some (vI r6)], [vI 59, vR 111], σ9)) rfl ?_
      refine run_callW (w := fun a => some (vI a)) (m := 231) (as := [vR 111, vI 59]) (pc := 55) (ls := [some (vR 111), some (vI r6)]) (st' := []) (σ := σ9) hf rfl (fun _ _ h => (c_M_readSign h).mono (by decide)) (fun r10 σ11 hf => ?_)
      refine run_seg (k := 1) (s' := (if r10 = 0 then (58, [some (vR 111), some (vI r6)], [], σ11) else (60, [some (vR 111), some (vI r6)], [], σ11))) rfl ?_
      refine run_ite hf (fun _ hf => ?_) (fun _ hf => ?_)
      · refine run_seg (k := 1) (s' := (59, [some (vR 111), some (vI r6)], [vI 0], σ11)) rfl ?_
        exact run_ret hf rfl
      · refine run_seg (k := 3) (s' := (if σ11 111 7 = 0 then (73, [some (vR 111), some (vI r6)], [], σ11) else (67, [some (vR 111), some (vI r6)], [], σ11))) rfl ?_
        refine run_ite hf (fun _ hf => ?_) (fun _ hf => ?_)
        · refine run_seg (k := 3) (s' := (if σ11 111 36 = 0 then (80, [some (vR 111), some (vI r6)], [], σ11) else (116, [some (vR 111), some (vI r6)], [], σ11))) rfl ?_
          refine run_ite hf (fun _ hf => ?_) (fun _ hf => ?_)
          · refine run_seg (k := 4) (s' := (86, [some (vR 111), some (vI r6)], [vI (σ11 111 34), vR 111, vR 111], σ11)) rfl ?_
            refine run_callN (w := fun a => some (vI a)) (m := 257) (as := [vR 111, vI (σ11 111 34)]) (pc := 89) (ls := [some (vR 111), some (vI r6)]) (st' := [vR 111]) (σ := σ11) hf rfl (fun _ h => (c_M_sortOf h).mono (by decide)) (fun r12 hf => ?_)
            refine run_seg (k := 1) (s' := (if r12 = 0 then (96, [some (vR 111), some (vI r6)], [vR 111], σ11) else (92, [some (vR 111), some (vI r6)], [vR 111], σ11))) rfl ?_
            refine run_ite hf (fun _ hf => ?_) (fun _ hf => ?_)
            · refine run_seg (k := 3) (s' := (101, [some (vR 111), some (vI r6)], [vI (σ11 111 34), vR 111, vR 111], σ11)) rfl ?_
              refine run_callN (w := fun a => some (vI a)) (m := 258) (as := [vR 111, vI (σ11 111 34)]) (pc := 104) (ls := [some (vR 111), some (vI r6)]) (st' := [vR 111]) (σ := σ11) hf rfl (fun _ h => (c_M_whichOf h).mono (by decide)) (fun r13 hf => ?_)
              refine run_seg (k := 2) (s' := (if r13 = r6 then (112, [some (vR 111), some (vI r6)], [vR 111], σ11) else (108, [some (vR 111), some (vI r6)], [vR 111], σ11))) rfl ?_
              refine run_ite hf (fun _ hf => ?_) (fun _ hf => ?_)
              · refine run_seg (k := 1) (s' := (113, [some (vR 111), some (vI r6)], [vI 0, vR 111], σ11)) rfl ?_
                exact r_M_readSo_113 hf
              · refine run_seg (k := 2) (s' := (113, [some (vR 111), some (vI r6)], [vI 5, vR 111], σ11)) rfl ?_
                exact r_M_readSo_113 hf
            · refine run_seg (k := 2) (s' := (113, [some (vR 111), some (vI r6)], [vI 4, vR 111], σ11)) rfl ?_
              exact r_M_readSo_113 hf
          · exact r_M_readSo_116 hf
        · refine run_seg (k := 2) (s' := (69, [some (vR 111), some (vI r6)], [vI 1, vR 111], σ11)) rfl ?_
          refine run_callW (w := fun a => some (vI a)) (m := 229) (as := [vR 111, vI 1]) (pc := 72) (ls := [some (vR 111), some (vI r6)]) (st' := []) (σ := σ11) hf rfl (fun _ _ h => (c_M_bad h).mono (by decide)) (fun r14 σ15 hf => ?_)
          exact run_ret hf rfl
def f_M_evening_161 (s0 : Int) (s1 : Int) (σ : xSt) : Option (Int × xSt) :=
  if 0 ≤ s1 ∧ s1 < 4 then (
  xlet (upS σ 124 s1.toNat s0) fun σ23 =>
  some (σ23 111 37, σ23)) else none
def f_M_evening_63 : Nat → xSt → Option (Int × xSt)
  | 0, _ => none
  | n + 1, σ =>
    if σ 111 7 = 0 then (xlet (upS σ 124 0 (σ 111 36)) fun σ13 =>
    xlet (upS σ13 124 1 (σ13 111 38)) fun σ14 =>
    xlet (upS σ14 124 2 (σ14 111 39)) fun σ15 =>
    xbR (f_M_sortOf (σ15 111 34) σ15) fun r16 =>
    if r16 = 0 then (xbR (f_M_whichOf (σ15 111 34) σ15) fun r17 =>
    f_M_evening_161 r17 3 σ15)
    else (f_M_evening_161 (-1) 3 σ15))
    else (xbR (f_M_isWord 5 σ) fun r18 =>
    if r18 = 0 then (xbW (f_M_readThrow σ) fun r19 σ20 =>
    if r19 = 0 then (some (w32 ((-2) - (σ20 111 11)), σ20))
    else (f_M_evening_63 n σ20))
    else (xbW (f_M_readSo σ) fun r21 σ22 =>
    if r21 = 0 then (some (w32 ((-2) - (σ22 111 11)), σ22))
    else (f_M_evening_63 n σ22)))
/-- BentPennyModel.evening()I -/
def f_M_evening (σ : xSt) : Option (Int × xSt) :=
  xlet (upS σ 111 0 0) fun σ1 =>
  xbR (f_M_hasWay σ1) fun r2 =>
  if r2 = 0 then (xbW (f_M_gather σ1) fun r3 σ4 =>
  some ((-1000), σ4))
  else (xbR (f_M_begin 600 σ1) fun σ5 =>
  xlet (upS σ5 111 34 0) fun σ6 =>
  xlet (upS σ6 111 40 1) fun σ7 =>
  xlet (upS σ7 111 35 0) fun σ8 =>
  xlet (upS σ8 111 36 0) fun σ9 =>
  xlet (upS σ9 111 37 (-1)) fun σ10 =>
  xlet (upS σ10 111 38 0) fun σ11 =>
  xlet (upS σ11 111 39 0) fun σ12 =>
  f_M_evening_63 1000000 σ12)
theorem r_M_evening_161 {s0 : Int} {s1 : Int} {σ : xSt} {r : Int × xSt} (hf : f_M_evening_161 s0 s1 σ = some r) : Run 4 12 1 kX12_evening (161, [some (vR 111)], [vI s0, vI s1, vR 124], σ) (tIW r) := by
  unfold f_M_evening_161 at hf
  refine run_guard (s' := (162, [some (vR 111)], [], upS σ 124 s1.toNat s0)) hf rfl (fun hf => ?_)
  refine run_let (fun σ23 => (162, [some (vR 111)], [], σ23)) hf (fun σ23 hf => ?_)
  refine run_seg (k := 2) (s' := (166, [some (vR 111)], [vI (σ23 111 37)], σ23)) rfl ?_
  exact run_ret hf rfl
theorem r_M_evening_63 : ∀ (n : Nat) {σ : xSt} {r : Int × xSt}, f_M_evening_63 n σ = some r → Run 4 12 1 kX12_evening (63, [some (vR 111)], [], σ) (tIW r) := by
  intro n
  induction n with
  | zero =>
    intro _ _ h
    exact nomatch (show (none : Option (Int × xSt)) = some _ from h)
  | succ n ih =>
    intro σ r hf
    unfold f_M_evening_63 at hf
    refine run_seg (k := 3) (s' := (if σ 111 7 = 0 then (103, [some (vR 111)], [], σ) else (70, [some (vR 111)], [], σ))) rfl ?_
    refine run_ite hf (fun _ hf => ?_) (fun _ hf => ?_)
    · refine run_seg (k := 6) (s' := (113, [some (vR 111)], [], upS σ 124 0 (σ 111 36))) rfl ?_
      refine run_let (fun σ13 => (113, [some (vR 111)], [], σ13)) hf (fun σ13 hf => ?_)
      refine run_seg (k := 6) (s' := (123, [some (vR 111)], [], upS σ13 124 1 (σ13 111 38))) rfl ?_
      refine run_let (fun σ14 => (123, [some (vR 111)], [], σ14)) hf (fun σ14 hf => ?_)
      refine run_seg (k := 6) (s' := (133, [some (vR 111)], [], upS σ14 124 2 (σ14 111 39))) rfl ?_
      refine run_let (fun σ15 => (133, [some (vR 111)], [], σ15)) hf (fun σ15 hf => ?_)
      refine run_seg (k := 6) (s' := (143, [some (vR 111)], [vI (σ15 111 34), vR 111, vI 3, vR 124], σ15)) rfl ?_
      refine run_callN (w := fun a => some (vI a)) (m := 257) (as := [vR 111, vI (σ15 111 34)]) (pc := 146) (ls := [some (vR 111)]) (st' := [vI 3, vR 124]) (σ := σ15) hf rfl (fun _ h => (c_M_sortOf h).mono (by decide)) (fun r16 hf => ?_)
      refine run_seg (k := 1) (s' := (if r16 = 0 then (149, [some (vR 111)], [vI 3, vR 124], σ15) else (160, [some (vR 111)], [vI 3, vR 124], σ15))) rfl ?_
      refine run_ite hf (fun _ hf => ?_) (fun _ hf => ?_)
      · refine run_seg (k := 3) (s' := (154, [some (vR 111)], [vI (σ15 111 34), vR 111, vI 3, vR 124], σ15)) rfl ?_
        refine run_callN (w := fun a => some (vI a)) (m := 258) (as := [vR 111, vI (σ15 111 34)]) (pc := 157) (ls := [some (vR 111)]) (st' := [vI 3, vR 124]) (σ := σ15) hf rfl (fun _ h => (c_M_whichOf h).mono (by decide)) (fun r17 hf => ?_)
        refine run_seg (k := 1) (s' := (161, [some (vR 111)], [vI r17, vI 3, vR 124], σ15)) rfl ?_
        exact r_M_evening_161 hf
      · refine run_seg (k := 1) (s' := (161, [some (vR 111)], [vI (-1), vI 3, vR 124], σ15)) rfl ?_
        exact r_M_evening_161 hf
    · refine run_seg (k := 2) (s' := (72, [some (vR 111)], [vI 5, vR 111], σ)) rfl ?_
      refine run_callN (w := fun a => some (vI a)) (m := 226) (as := [vR 111, vI 5]) (pc := 75) (ls := [some (vR 111)]) (st' := []) (σ := σ) hf rfl (fun _ h => (c_M_isWord h).mono (by decide)) (fun r18 hf => ?_)
      refine run_seg (k := 1) (s' := (if r18 = 0 then (88, [some (vR 111)], [], σ) else (78, [some (vR 111)], [], σ))) rfl ?_
      refine run_ite hf (fun _ hf => ?_) (fun _ hf => ?_)
      · refine run_seg (k := 1) (s' := (89, [some (vR 111)], [vR 111], σ)) rfl ?_
        refine run_callW (w := fun a => some (vI a)) (m := 285) (as := [vR 111]) (pc := 92) (ls := [some (vR 111)]) (st' := []) (σ := σ) hf rfl (fun _ _ h => (c_M_readThrow h).mono (by decide)) (fun r19 σ20 hf => ?_)
        refine run_seg (k := 1) (s' := (if r19 = 0 then (95, [some (vR 111)], [], σ20) else (63, [some (vR 111)], [], σ20))) rfl ?_
        refine run_ite hf (fun _ hf => ?_) (fun _ hf => ?_)
        · refine run_seg (k := 4) (s' := (102, [some (vR 111)], [vI (w32 ((-2) - (σ20 111 11)))], σ20)) rfl ?_
          exact run_ret hf rfl
        · exact ih hf
      · refine run_seg (k := 1) (s' := (79, [some (vR 111)], [vR 111], σ)) rfl ?_
        refine run_callW (w := fun a => some (vI a)) (m := 287) (as := [vR 111]) (pc := 82) (ls := [some (vR 111)]) (st' := []) (σ := σ) hf rfl (fun _ _ h => (c_M_readSo h).mono (by decide)) (fun r21 σ22 hf => ?_)
        refine run_seg (k := 1) (s' := (if r21 = 0 then (95, [some (vR 111)], [], σ22) else (85, [some (vR 111)], [], σ22))) rfl ?_
        refine run_ite hf (fun _ hf => ?_) (fun _ hf => ?_)
        · refine run_seg (k := 4) (s' := (102, [some (vR 111)], [vI (w32 ((-2) - (σ22 111 11)))], σ22)) rfl ?_
          exact run_ret hf rfl
        · refine run_seg (k := 1) (s' := (63, [some (vR 111)], [], σ22)) rfl ?_
          exact ih hf
theorem c_M_evening {σ : xSt} {r : Int × xSt} (hf : f_M_evening σ = some r) : Call (4 + 1) 288 [vR 111] σ (tIW r).1 (tIW r).2 := by
  unfold f_M_evening at hf
  refine call_of (own := 12) (rk := 1) (cd := kX12_evening) (ls := [some (vR 111)]) (rT := tIW) rfl rfl rfl rfl rfl ?_
  refine run_seg (k := 3) (s' := (5, [some (vR 111)], [], upS σ 111 0 0)) rfl ?_
  refine run_let (fun σ1 => (5, [some (vR 111)], [], σ1)) hf (fun σ1 hf => ?_)
  refine run_seg (k := 1) (s' := (6, [some (vR 111)], [vR 111], σ1)) rfl ?_
  refine run_callN (w := fun a => some (vI a)) (m := 263) (as := [vR 111]) (pc := 9) (ls := [some (vR 111)]) (st' := []) (σ := σ1) hf rfl (fun _ h => (c_M_hasWay h).mono (by decide)) (fun r2 hf => ?_)
  refine run_seg (k := 1) (s' := (if r2 = 0 then (12, [some (vR 111)], [], σ1) else (21, [some (vR 111)], [], σ1))) rfl ?_
  refine run_ite hf (fun _ hf => ?_) (fun _ hf => ?_)
  · refine run_seg (k := 1) (s' := (13, [some (vR 111)], [vR 111], σ1)) rfl ?_
    refine run_callW (w := fun a => some (vI a)) (m := 215) (as := [vR 111]) (pc := 16) (ls := [some (vR 111)]) (st' := []) (σ := σ1) hf rfl (fun _ _ h => (c_M_gather h).mono (by decide)) (fun r3 σ4 hf => ?_)
    refine run_seg (k := 2) (s' := (20, [some (vR 111)], [vI (-1000)], σ4)) rfl ?_
    exact run_ret hf rfl
  · refine run_seg (k := 2) (s' := (25, [some (vR 111)], [vI 600, vR 111], σ1)) rfl ?_
    refine run_callV (m := 232) (as := [vR 111, vI 600]) (pc := 28) (ls := [some (vR 111)]) (st' := []) (σ := σ1) hf rfl (fun _ h => (c_M_begin h).mono (by decide)) (fun σ5 hf => ?_)
    refine run_seg (k := 3) (s' := (33, [some (vR 111)], [], upS σ5 111 34 0)) rfl ?_
    refine run_let (fun σ6 => (33, [some (vR 111)], [], σ6)) hf (fun σ6 hf => ?_)
    refine run_seg (k := 3) (s' := (38, [some (vR 111)], [], upS σ6 111 40 1)) rfl ?_
    refine run_let (fun σ7 => (38, [some (vR 111)], [], σ7)) hf (fun σ7 hf => ?_)
    refine run_seg (k := 3) (s' := (43, [some (vR 111)], [], upS σ7 111 35 0)) rfl ?_
    refine run_let (fun σ8 => (43, [some (vR 111)], [], σ8)) hf (fun σ8 hf => ?_)
    refine run_seg (k := 3) (s' := (48, [some (vR 111)], [], upS σ8 111 36 0)) rfl ?_
    refine run_let (fun σ9 => (48, [some (vR 111)], [], σ9)) hf (fun σ9 hf => ?_)
    refine run_seg (k := 3) (s' := (53, [some (vR 111)], [], upS σ9 111 37 (-1))) rfl ?_
    refine run_let (fun σ10 => (53, [some (vR 111)], [], σ10)) hf (fun σ10 hf => ?_)
    refine run_seg (k := 3) (s' := (58, [some (vR 111)], [], upS σ10 111 38 0)) rfl ?_
    refine run_let (fun σ11 => (58, [some (vR 111)], [], σ11)) hf (fun σ11 hf => ?_)
    refine run_seg (k := 3) (s' := (63, [some (vR 111)], [], upS σ11 111 39 0)) rfl ?_
    refine run_let (fun σ12 => (63, [some (vR 111)], [], σ12)) hf (fun σ12 hf => ?_)
    exact r_M_evening_63 1000000 hf
/-- BentPennyModel.judged(I)I -/
def f_M_judged (p1 : Int) (σ : xSt) : Option (Int × xSt) :=
  xlet (upS σ 111 0 0) fun σ1 =>
  xbR (f_M_isIn p1 0 3 σ1) fun r2 =>
  if r2 = 0 then (some ((-1), σ1))
  else (if 0 ≤ p1 ∧ p1 < 4 then (
  some (σ1 124 p1.toNat, σ1)) else none)
theorem c_M_judged {p1 : Int} {σ : xSt} {r : Int × xSt} (hf : f_M_judged p1 σ = some r) : Call (1 + 1) 289 [vR 111, vI p1] σ (tIW r).1 (tIW r).2 := by
  unfold f_M_judged at hf
  refine call_of (own := 12) (rk := 1) (cd := kX12_judged) (ls := [some (vR 111), some (vI p1)]) (rT := tIW) rfl rfl rfl rfl rfl ?_
  refine run_seg (k := 3) (s' := (5, [some (vR 111), some (vI p1)], [], upS σ 111 0 0)) rfl ?_
  refine run_let (fun σ1 => (5, [some (vR 111), some (vI p1)], [], σ1)) hf (fun σ1 hf => ?_)
  refine run_seg (k := 3) (s' := (8, [some (vR 111), some (vI p1)], [vI 3, vI 0, vI p1], σ1)) rfl ?_
  refine run_callN (w := fun a => some (vI a)) (m := 216) (as := [vI p1, vI 0, vI 3]) (pc := 11) (ls := [some (vR 111), some (vI p1)]) (st' := []) (σ := σ1) hf rfl (fun _ h => (c_M_isIn h).mono (by decide)) (fun r2 hf => ?_)
  refine run_seg (k := 1) (s' := (if r2 = 0 then (23, [some (vR 111), some (vI p1)], [], σ1) else (14, [some (vR 111), some (vI p1)], [], σ1))) rfl ?_
  refine run_ite hf (fun _ hf => ?_) (fun _ hf => ?_)
  · refine run_seg (k := 1) (s' := (24, [some (vR 111), some (vI p1)], [vI (-1)], σ1)) rfl ?_
    exact run_ret hf rfl
  · refine run_seg (k := 3) (s' := (19, [some (vR 111), some (vI p1)], [vI p1, vR 124], σ1)) rfl ?_
    refine run_guard (s' := (20, [some (vR 111), some (vI p1)], [vI (σ1 124 p1.toNat)], σ1)) hf rfl (fun hf => ?_)
    refine run_seg (k := 1) (s' := (24, [some (vR 111), some (vI p1)], [vI (σ1 124 p1.toNat)], σ1)) rfl ?_
    exact run_ret hf rfl
def f_M_takeRow_74 (k19 : (Int → Int → xSt → Option (Int × xSt))) (l3 : Int) (l4 : Int) (s0 : Int) (s1 : Int) (σ : xSt) : Option (Int × xSt) :=
  if 0 ≤ s1 ∧ s1 < 2600 then (
  xlet (upS σ 125 s1.toNat s0) fun σ5 =>
  xlet (w32 (l4 + 1)) fun x6 =>
  k19 l3 x6 σ5) else none
def f_M_takeRow_51 (k19 : (Int → Int → xSt → Option (Int × xSt))) (l3 : Int) (l4 : Int) (σ : xSt) : Option (Int × xSt) :=
  if 0 ≤ l4 ∧ l4 < 640 then (
  if σ 112 l4.toNat = 104 then (f_M_takeRow_74 (k19) l3 l4 1 l4 σ)
  else (f_M_takeRow_74 (k19) l3 l4 0 l4 σ)) else none
def f_M_takeRow_19 : Nat → Int → Int → xSt → Option (Int × xSt)
  | 0, _, _, _ => none
  | n + 1, l3, l4, σ =>
    if l4 < l3 then (if 0 ≤ l4 ∧ l4 < 640 then (
    if σ 112 l4.toNat = 104 then (f_M_takeRow_51 (fun z0 z1 sz => f_M_takeRow_19 n z0 z1 sz) l3 l4 σ)
    else (if 0 ≤ l4 ∧ l4 < 640 then (
    if σ 112 l4.toNat = 116 then (f_M_takeRow_51 (fun z0 z1 sz => f_M_takeRow_19 n z0 z1 sz) l3 l4 σ)
    else (some ((-1), σ))) else none)) else none)
    else (xlet (upS σ 111 44 0) fun σ4 =>
    some (l3, σ4))
/-- BentPennyModel.takeRow(II)I -/
def f_M_takeRow (p1 : Int) (p2 : Int) (σ : xSt) : Option (Int × xSt) :=
  xbW (f_M_gather σ) fun r1 σ2 =>
  xbR (f_M_isIn r1 p1 p2 σ2) fun r3 =>
  if r3 = 0 then (some ((-1), σ2))
  else (f_M_takeRow_19 1000000 r1 0 σ2)
theorem r_M_takeRow_74 {k19 : (Int → Int → xSt → Option (Int × xSt))} (hk19 : ∀ {l3 : Int} {l4 : Int} {g1 : Option xV} {g2 : Option xV} {σ : xSt} {r : Int × xSt}, k19 l3 l4 σ = some r → Run 1 12 1 kX12_takeRow (19, [some (vR 111), g1, g2, some (vI l3), some (vI l4)], [], σ) (tIW r)) {l3 : Int} {l4 : Int} {s0 : Int} {s1 : Int} {g1 : Option xV} {g2 : Option xV} {σ : xSt} {r : Int × xSt} (hf : f_M_takeRow_74 k19 l3 l4 s0 s1 σ = some r) : Run 1 12 1 kX12_takeRow (74, [some (vR 111), g1, g2, some (vI l3), some (vI l4)], [vI s0, vI s1, vR 125], σ) (tIW r) := by
  unfold f_M_takeRow_74 at hf
  refine run_guard (s' := (75, [some (vR 111), g1, g2, some (vI l3), some (vI l4)], [], upS σ 125 s1.toNat s0)) hf rfl (fun hf => ?_)
  refine run_let (fun σ5 => (75, [some (vR 111), g1, g2, some (vI l3), some (vI l4)], [], σ5)) hf (fun σ5 hf => ?_)
  refine run_seg (k := 1) (s' := (78, [some (vR 111), g1, g2, some (vI l3), some (vI (w32 (l4 + 1)))], [], σ5)) rfl ?_
  refine run_let (fun x6 => (78, [some (vR 111), g1, g2, some (vI l3), some (vI x6)], [], σ5)) hf (fun x6 hf => ?_)
  refine run_seg (k := 1) (s' := (19, [some (vR 111), g1, g2, some (vI l3), some (vI x6)], [], σ5)) rfl ?_
  exact hk19 hf
theorem r_M_takeRow_51 {k19 : (Int → Int → xSt → Option (Int × xSt))} (hk19 : ∀ {l3 : Int} {l4 : Int} {g1 : Option xV} {g2 : Option xV} {σ : xSt} {r : Int × xSt}, k19 l3 l4 σ = some r → Run 1 12 1 kX12_takeRow (19, [some (vR 111), g1, g2, some (vI l3), some (vI l4)], [], σ) (tIW r)) {l3 : Int} {l4 : Int} {g1 : Option xV} {g2 : Option xV} {σ : xSt} {r : Int × xSt} (hf : f_M_takeRow_51 k19 l3 l4 σ = some r) : Run 1 12 1 kX12_takeRow (51, [some (vR 111), g1, g2, some (vI l3), some (vI l4)], [], σ) (tIW r) := by
  unfold f_M_takeRow_51 at hf
  refine run_seg (k := 6) (s' := (63, [some (vR 111), g1, g2, some (vI l3), some (vI l4)], [vI l4, vR 112, vI l4, vR 125], σ)) rfl ?_
  refine run_guard (s' := (64, [some (vR 111), g1, g2, some (vI l3), some (vI l4)], [vI (σ 112 l4.toNat), vI l4, vR 125], σ)) hf rfl (fun hf => ?_)
  refine run_seg (k := 2) (s' := (if σ 112 l4.toNat = 104 then (69, [some (vR 111), g1, g2, some (vI l3), some (vI l4)], [vI l4, vR 125], σ) else (73, [some (vR 111), g1, g2, some (vI l3), some (vI l4)], [vI l4, vR 125], σ))) rfl ?_
  refine run_ite hf (fun _ hf => ?_) (fun _ hf => ?_)
  · refine run_seg (k := 2) (s' := (74, [some (vR 111), g1, g2, some (vI l3), some (vI l4)], [vI 1, vI l4, vR 125], σ)) rfl ?_
    exact r_M_takeRow_74 (hk19) hf
  · refine run_seg (k := 1) (s' := (74, [some (vR 111), g1, g2, some (vI l3), some (vI l4)], [vI 0, vI l4, vR 125], σ)) rfl ?_
    exact r_M_takeRow_74 (hk19) hf
theorem r_M_takeRow_19 : ∀ (n : Nat) {l3 : Int} {l4 : Int} {g1 : Option xV} {g2 : Option xV} {σ : xSt} {r : Int × xSt}, f_M_takeRow_19 n l3 l4 σ = some r → Run 1 12 1 kX12_takeRow (19, [some (vR 111), g1, g2, some (vI l3), some (vI l4)], [], σ) (tIW r) := by
  intro n
  induction n with
  | zero =>
    intro _ _ _ _ _ _ h
    exact nomatch (show (none : Option (Int × xSt)) = some _ from h)
  | succ n ih =>
    intro l3 l4 g1 g2 σ r hf
    unfold f_M_takeRow_19 at hf
    refine run_seg (k := 3) (s' := (if l4 < l3 then (25, [some (vR 111), g1, g2, some (vI l3), some (vI l4)], [], σ) else (81, [some (vR 111), g1, g2, some (vI l3), some (vI l4)], [], σ))) rfl ?_
    refine run_ite hf (fun _ hf => ?_) (fun _ hf => ?_)
    · refine run_seg (k := 3) (s' := (31, [some (vR 111), g1, g2, some (vI l3), some (vI l4)], [vI l4, vR 112], σ)) rfl ?_
      refine run_guard (s' := (32, [some (vR 111), g1, g2, some (vI l3), some (vI l4)], [vI (σ 112 l4.toNat)], σ)) hf rfl (fun hf => ?_)
      refine run_seg (k := 2) (s' := (if σ 112 l4.toNat = 104 then (51, [some (vR 111), g1, g2, some (vI l3), some (vI l4)], [], σ) else (37, [some (vR 111), g1, g2, some (vI l3), some (vI l4)], [], σ))) rfl ?_
      refine run_ite hf (fun _ hf => ?_) (fun _ hf => ?_)
      · exact r_M_takeRow_51 (fun h => ih h) hf
      · refine run_seg (k := 3) (s' := (43, [some (vR 111), g1, g2, some (vI l3), some (vI l4)], [vI l4, vR 112], σ)) rfl ?_
        refine run_guard (s' := (44, [some (vR 111), g1, g2, some (vI l3), some (vI l4)], [vI (σ 112 l4.toNat)], σ)) hf rfl (fun hf => ?_)
        refine run_seg (k := 2) (s' := (if σ 112 l4.toNat = 116 then (51, [some (vR 111), g1, g2, some (vI l3), some (vI l4)], [], σ) else (49, [some (vR 111), g1, g2, some (vI l3), some (vI l4)], [], σ))) rfl ?_
        refine run_ite hf (fun _ hf => ?_) (fun _ hf => ?_)
        · exact r_M_takeRow_51 (fun h => ih h) hf
        · refine run_seg (k := 1) (s' := (50, [some (vR 111), g1, g2, some (vI l3), some (vI l4)], [vI (-1)], σ)) rfl ?_
          exact run_ret hf rfl
    · refine run_seg (k := 3) (s' := (86, [some (vR 111), g1, g2, some (vI l3), some (vI l4)], [], upS σ 111 44 0)) rfl ?_
      refine run_let (fun σ4 => (86, [some (vR 111), g1, g2, some (vI l3), some (vI l4)], [], σ4)) hf (fun σ4 hf => ?_)
      refine run_seg (k := 1) (s' := (87, [some (vR 111), g1, g2, some (vI l3), some (vI l4)], [vI l3], σ4)) rfl ?_
      exact run_ret hf rfl
theorem c_M_takeRow {p1 : Int} {p2 : Int} {σ : xSt} {r : Int × xSt} (hf : f_M_takeRow p1 p2 σ = some r) : Call (1 + 1) 290 [vR 111, vI p1, vI p2] σ (tIW r).1 (tIW r).2 := by
  unfold f_M_takeRow at hf
  refine call_of (own := 12) (rk := 1) (cd := kX12_takeRow) (ls := [some (vR 111), some (vI p1), some (vI p2), none, none]) (rT := tIW) rfl rfl rfl rfl rfl ?_
  refine run_seg (k := 1) (s' := (1, [some (vR 111), some (vI p1), some (vI p2), none, none], [vR 111], σ)) rfl ?_
  refine run_callW (w := fun a => some (vI a)) (m := 215) (as := [vR 111]) (pc := 4) (ls := [some (vR 111), some (vI p1), some (vI p2), none, none]) (st' := []) (σ := σ) hf rfl (fun _ _ h => (c_M_gather h).mono (by decide)) (fun r1 σ2 hf => ?_)
  refine run_seg (k := 4) (s' := (8, [some (vR 111), some (vI p1), some (vI p2), some (vI r1), none], [vI p2, vI p1, vI r1], σ2)) rfl ?_
  refine run_callN (w := fun a => some (vI a)) (m := 216) (as := [vI r1, vI p1, vI p2]) (pc := 11) (ls := [some (vR 111), some (vI p1), some (vI p2), some (vI r1), none]) (st' := []) (σ := σ2) hf rfl (fun _ h => (c_M_isIn h).mono (by decide)) (fun r3 hf => ?_)
  refine run_seg (k := 1) (s' := (if r3 = 0 then (14, [some (vR 111), some (vI p1), some (vI p2), some (vI r1), none], [], σ2) else (16, [some (vR 111), some (vI p1), some (vI p2), some (vI r1), none], [], σ2))) rfl ?_
  refine run_ite hf (fun _ hf => ?_) (fun _ hf => ?_)
  · refine run_seg (k := 1) (s' := (15, [some (vR 111), some (vI p1), some (vI p2), some (vI r1), none], [vI (-1)], σ2)) rfl ?_
    exact run_ret hf rfl
  · refine run_seg (k := 2) (s' := (19, [some (vR 111), some (vI p1), some (vI p2), some (vI r1), some (vI 0)], [], σ2)) rfl ?_
    exact r_M_takeRow_19 1000000 hf
def f_M_tellBits_15 : Nat → Int → xSt → Option (Int × xSt)
  | 0, _, _ => none
  | n + 1, l1, σ =>
    if l1 < σ 111 44 then (if 0 ≤ l1 ∧ l1 < 1300 then (
    if 0 ≤ l1 ∧ l1 < 1300 then (
    xlet (upS σ 127 l1.toNat (σ 126 l1.toNat)) fun σ3 =>
    xlet (w32 (l1 + 1)) fun x4 =>
    f_M_tellBits_15 n x4 σ3) else none) else none)
    else (some (σ 111 44, σ))
/-- BentPennyModel.tellBits()I -/
def f_M_tellBits (σ : xSt) : Option (Int × xSt) :=
  xlet (upS σ 111 43 (σ 111 44)) fun σ1 =>
  xlet (upS σ1 111 45 1) fun σ2 =>
  f_M_tellBits_15 1000000 0 σ2
theorem r_M_tellBits_15 : ∀ (n : Nat) {l1 : Int} {σ : xSt} {r : Int × xSt}, f_M_tellBits_15 n l1 σ = some r → Run 0 12 1 kX12_tellBits (15, [some (vR 111), some (vI l1)], [], σ) (tIW r) := by
  intro n
  induction n with
  | zero =>
    intro _ _ _ h
    exact nomatch (show (none : Option (Int × xSt)) = some _ from h)
  | succ n ih =>
    intro l1 σ r hf
    unfold f_M_tellBits_15 at hf
    refine run_seg (k := 4) (s' := (if l1 < σ 111 44 then (23, [some (vR 111), some (vI l1)], [], σ) else (41, [some (vR 111), some (vI l1)], [], σ))) rfl ?_
    refine run_ite hf (fun _ hf => ?_) (fun _ hf => ?_)
    · refine run_seg (k := 6) (s' := (33, [some (vR 111), some (vI l1)], [vI l1, vR 126, vI l1, vR 127], σ)) rfl ?_
      refine run_guard (s' := (34, [some (vR 111), some (vI l1)], [vI (σ 126 l1.toNat), vI l1, vR 127], σ)) hf rfl (fun hf => ?_)
      refine run_guard (s' := (35, [some (vR 111), some (vI l1)], [], upS σ 127 l1.toNat (σ 126 l1.toNat))) hf rfl (fun hf => ?_)
      refine run_let (fun σ3 => (35, [some (vR 111), some (vI l1)], [], σ3)) hf (fun σ3 hf => ?_)
      refine run_seg (k := 1) (s' := (38, [some (vR 111), some (vI (w32 (l1 + 1)))], [], σ3)) rfl ?_
      refine run_let (fun x4 => (38, [some (vR 111), some (vI x4)], [], σ3)) hf (fun x4 hf => ?_)
      refine run_seg (k := 1) (s' := (15, [some (vR 111), some (vI x4)], [], σ3)) rfl ?_
      exact ih hf
    · refine run_seg (k := 2) (s' := (45, [some (vR 111), some (vI l1)], [vI (σ 111 44)], σ)) rfl ?_
      exact run_ret hf rfl
theorem c_M_tellBits {σ : xSt} {r : Int × xSt} (hf : f_M_tellBits σ = some r) : Call (0 + 1) 291 [vR 111] σ (tIW r).1 (tIW r).2 := by
  unfold f_M_tellBits at hf
  refine call_of (own := 12) (rk := 1) (cd := kX12_tellBits) (ls := [some (vR 111), none]) (rT := tIW) rfl rfl rfl rfl rfl ?_
  refine run_seg (k := 4) (s' := (8, [some (vR 111), none], [], upS σ 111 43 (σ 111 44))) rfl ?_
  refine run_let (fun σ1 => (8, [some (vR 111), none], [], σ1)) hf (fun σ1 hf => ?_)
  refine run_seg (k := 3) (s' := (13, [some (vR 111), none], [], upS σ1 111 45 1)) rfl ?_
  refine run_let (fun σ2 => (13, [some (vR 111), none], [], σ2)) hf (fun σ2 hf => ?_)
  refine run_seg (k := 2) (s' := (15, [some (vR 111), some (vI 0)], [], σ2)) rfl ?_
  exact r_M_tellBits_15 1000000 hf
def f_M_bit_17 (s0 : Int) (s1 : Int) (σ : xSt) : Option (xSt) :=
  if 0 ≤ s1 ∧ s1 < 1300 then (
  xlet (upS σ 126 s1.toNat s0) fun σ1 =>
  xlet (upS σ1 111 44 (w32 ((σ1 111 44) + 1))) fun σ2 =>
  some σ2) else none
/-- BentPennyModel.bit(Z)V -/
def f_M_bit (p1 : Int) (σ : xSt) : Option (xSt) :=
  if p1 = 0 then (f_M_bit_17 0 (σ 111 44) σ)
  else (f_M_bit_17 1 (σ 111 44) σ)
theorem r_M_bit_17 {s0 : Int} {s1 : Int} {g1 : Option xV} {σ : xSt} {r : xSt} (hf : f_M_bit_17 s0 s1 σ = some r) : Run 0 12 0 kX12_bit (17, [some (vR 111), g1], [vI s0, vI s1, vR 126], σ) (tV r) := by
  unfold f_M_bit_17 at hf
  refine run_guard (s' := (18, [some (vR 111), g1], [], upS σ 126 s1.toNat s0)) hf rfl (fun hf => ?_)
  refine run_let (fun σ1 => (18, [some (vR 111), g1], [], σ1)) hf (fun σ1 hf => ?_)
  refine run_seg (k := 6) (s' := (28, [some (vR 111), g1], [], upS σ1 111 44 (w32 ((σ1 111 44) + 1)))) rfl ?_
  refine run_let (fun σ2 => (28, [some (vR 111), g1], [], σ2)) hf (fun σ2 hf => ?_)
  exact run_ret hf rfl
theorem c_M_bit {p1 : Int} {σ : xSt} {r : xSt} (hf : f_M_bit p1 σ = some r) : Call (0 + 1) 292 [vR 111, vI p1] σ (tV r).1 (tV r).2 := by
  unfold f_M_bit at hf
  refine call_of (own := 12) (rk := 0) (cd := kX12_bit) (ls := [some (vR 111), some (vI p1)]) (rT := tV) rfl rfl rfl rfl rfl ?_
  refine run_seg (k := 6) (s' := (if p1 = 0 then (16, [some (vR 111), some (vI p1)], [vI (σ 111 44), vR 126], σ) else (12, [some (vR 111), some (vI p1)], [vI (σ 111 44), vR 126], σ))) rfl ?_
  refine run_ite hf (fun _ hf => ?_) (fun _ hf => ?_)
  · refine run_seg (k := 1) (s' := (17, [some (vR 111), some (vI p1)], [vI 0, vI (σ 111 44), vR 126], σ)) rfl ?_
    exact r_M_bit_17 hf
  · refine run_seg (k := 2) (s' := (17, [some (vR 111), some (vI p1)], [vI 1, vI (σ 111 44), vR 126], σ)) rfl ?_
    exact r_M_bit_17 hf
def f_M_pairsOf_48 (k2 : (Int → Int → Int → xSt → Option (xSt))) (l1 : Int) (l2 : Int) (l3 : Int) (s0 : Int) (σ : xSt) : Option (xSt) :=
  xbR (f_M_bit s0 σ) fun σ2 =>
  xlet (w32 (l3 + 2)) fun x3 =>
  k2 l1 l2 x3 σ2
def f_M_pairsOf_2 : Nat → Int → Int → Int → xSt → Option (xSt)
  | 0, _, _, _, _ => none
  | n + 1, l1, l2, l3, σ =>
    if w32 (l3 + 1) < l2 then (if 0 ≤ w32 (l1 + l3) ∧ w32 (l1 + l3) < 2600 then (
    if 0 ≤ w32 ((w32 (l1 + l3)) + 1) ∧ w32 ((w32 (l1 + l3)) + 1) < 2600 then (
    if σ 125 (w32 (l1 + l3)).toNat = σ 125 (w32 ((w32 (l1 + l3)) + 1)).toNat then (xlet (w32 (l3 + 2)) fun x1 =>
    f_M_pairsOf_2 n l1 l2 x1 σ)
    else (if 0 ≤ w32 (l1 + l3) ∧ w32 (l1 + l3) < 2600 then (
    if σ 125 (w32 (l1 + l3)).toNat = 1 then (f_M_pairsOf_48 (fun z0 z1 z2 sz => f_M_pairsOf_2 n z0 z1 z2 sz) l1 l2 l3 1 σ)
    else (f_M_pairsOf_48 (fun z0 z1 z2 sz => f_M_pairsOf_2 n z0 z1 z2 sz) l1 l2 l3 0 σ)) else none)) else none) else none)
    else (some σ)
/-- BentPennyModel.pairsOf(II)V -/
def f_M_pairsOf (p1 : Int) (p2 : Int) (σ : xSt) : Option (xSt) :=
  f_M_pairsOf_2 1000000 p1 p2 0 σ
theorem r_M_pairsOf_48 {k2 : (Int → Int → Int → xSt → Option (xSt))} (hk2 : ∀ {l1 : Int} {l2 : Int} {l3 : Int} {σ : xSt} {r : xSt}, k2 l1 l2 l3 σ = some r → Run 1 12 0 kX12_pairsOf (2, [some (vR 111), some (vI l1), some (vI l2), some (vI l3)], [], σ) (tV r)) {l1 : Int} {l2 : Int} {l3 : Int} {s0 : Int} {σ : xSt} {r : xSt} (hf : f_M_pairsOf_48 k2 l1 l2 l3 s0 σ = some r) : Run 1 12 0 kX12_pairsOf (48, [some (vR 111), some (vI l1), some (vI l2), some (vI l3)], [vI s0, vR 111], σ) (tV r) := by
  unfold f_M_pairsOf_48 at hf
  refine run_callV (m := 292) (as := [vR 111, vI s0]) (pc := 51) (ls := [some (vR 111), some (vI l1), some (vI l2), some (vI l3)]) (st' := []) (σ := σ) hf rfl (fun _ h => (c_M_bit h).mono (by decide)) (fun σ2 hf => ?_)
  refine run_seg (k := 1) (s' := (54, [some (vR 111), some (vI l1), some (vI l2), some (vI (w32 (l3 + 2)))], [], σ2)) rfl ?_
  refine run_let (fun x3 => (54, [some (vR 111), some (vI l1), some (vI l2), some (vI x3)], [], σ2)) hf (fun x3 hf => ?_)
  refine run_seg (k := 1) (s' := (2, [some (vR 111), some (vI l1), some (vI l2), some (vI x3)], [], σ2)) rfl ?_
  exact hk2 hf
theorem r_M_pairsOf_2 : ∀ (n : Nat) {l1 : Int} {l2 : Int} {l3 : Int} {σ : xSt} {r : xSt}, f_M_pairsOf_2 n l1 l2 l3 σ = some r → Run 1 12 0 kX12_pairsOf (2, [some (vR 111), some (vI l1), some (vI l2), some (vI l3)], [], σ) (tV r) := by
  intro n
  induction n with
  | zero =>
    intro _ _ _ _ _ h
    exact nomatch (show (none : Option (xSt)) = some _ from h)
  | succ n ih =>
    intro l1 l2 l3 σ r hf
    unfold f_M_pairsOf_2 at hf
    refine run_seg (k := 5) (s' := (if w32 (l3 + 1) < l2 then (9, [some (vR 111), some (vI l1), some (vI l2), some (vI l3)], [], σ) else (57, [some (vR 111), some (vI l1), some (vI l2), some (vI l3)], [], σ))) rfl ?_
    refine run_ite hf (fun _ hf => ?_) (fun _ hf => ?_)
    · refine run_seg (k := 5) (s' := (16, [some (vR 111), some (vI l1), some (vI l2), some (vI l3)], [vI (w32 (l1 + l3)), vR 125], σ)) rfl ?_
      refine run_guard (s' := (17, [some (vR 111), some (vI l1), some (vI l2), some (vI l3)], [vI (σ 125 (w32 (l1 + l3)).toNat)], σ)) hf rfl (fun hf => ?_)
      refine run_seg (k := 7) (s' := (26, [some (vR 111), some (vI l1), some (vI l2), some (vI l3)], [vI (w32 ((w32 (l1 + l3)) + 1)), vR 125, vI (σ 125 (w32 (l1 + l3)).toNat)], σ)) rfl ?_
      refine run_guard (s' := (27, [some (vR 111), some (vI l1), some (vI l2), some (vI l3)], [vI (σ 125 (w32 ((w32 (l1 + l3)) + 1)).toNat), vI (σ 125 (w32 (l1 + l3)).toNat)], σ)) hf rfl (fun hf => ?_)
      refine run_seg (k := 1) (s' := (if σ 125 (w32 (l1 + l3)).toNat = σ 125 (w32 ((w32 (l1 + l3)) + 1)).toNat then (51, [some (vR 111), some (vI l1), some (vI l2), some (vI l3)], [], σ) else (30, [some (vR 111), some (vI l1), some (vI l2), some (vI l3)], [], σ))) rfl ?_
      refine run_ite hf (fun _ hf => ?_) (fun _ hf => ?_)
      · refine run_seg (k := 1) (s' := (54, [some (vR 111), some (vI l1), some (vI l2), some (vI (w32 (l3 + 2)))], [], σ)) rfl ?_
        refine run_let (fun x1 => (54, [some (vR 111), some (vI l1), some (vI l2), some (vI x1)], [], σ)) hf (fun x1 hf => ?_)
        refine run_seg (k := 1) (s' := (2, [some (vR 111), some (vI l1), some (vI l2), some (vI x1)], [], σ)) rfl ?_
        exact ih hf
      · refine run_seg (k := 6) (s' := (38, [some (vR 111), some (vI l1), some (vI l2), some (vI l3)], [vI (w32 (l1 + l3)), vR 125, vR 111], σ)) rfl ?_
        refine run_guard (s' := (39, [some (vR 111), some (vI l1), some (vI l2), some (vI l3)], [vI (σ 125 (w32 (l1 + l3)).toNat), vR 111], σ)) hf rfl (fun hf => ?_)
        refine run_seg (k := 2) (s' := (if σ 125 (w32 (l1 + l3)).toNat = 1 then (43, [some (vR 111), some (vI l1), some (vI l2), some (vI l3)], [vR 111], σ) else (47, [some (vR 111), some (vI l1), some (vI l2), some (vI l3)], [vR 111], σ))) rfl ?_
        refine run_ite hf (fun _ hf => ?_) (fun _ hf => ?_)
        · refine run_seg (k := 2) (s' := (48, [some (vR 111), some (vI l1), some (vI l2), some (vI l3)], [vI 1, vR 111], σ)) rfl ?_
          exact r_M_pairsOf_48 (fun h => ih h) hf
        · refine run_seg (k := 1) (s' := (48, [some (vR 111), some (vI l1), some (vI l2), some (vI l3)], [vI 0, vR 111], σ)) rfl ?_
          exact r_M_pairsOf_48 (fun h => ih h) hf
    · exact run_ret hf rfl
theorem c_M_pairsOf {p1 : Int} {p2 : Int} {σ : xSt} {r : xSt} (hf : f_M_pairsOf p1 p2 σ = some r) : Call (1 + 1) 293 [vR 111, vI p1, vI p2] σ (tV r).1 (tV r).2 := by
  unfold f_M_pairsOf at hf
  refine call_of (own := 12) (rk := 0) (cd := kX12_pairsOf) (ls := [some (vR 111), some (vI p1), some (vI p2), none]) (rT := tV) rfl rfl rfl rfl rfl ?_
  refine run_seg (k := 2) (s' := (2, [some (vR 111), some (vI p1), some (vI p2), some (vI 0)], [], σ)) rfl ?_
  exact r_M_pairsOf_2 1000000 hf
/-- BentPennyModel.pairs()I -/
def f_M_pairs (σ : xSt) : Option (Int × xSt) :=
  xlet (upS σ 111 0 0) fun σ1 =>
  xbW (f_M_takeRow 0 600 σ1) fun r2 σ3 =>
  if r2 = (-1) then (some ((-1), σ3))
  else (xbR (f_M_pairsOf 0 r2 σ3) fun σ4 =>
  xbW (f_M_tellBits σ4) fun r5 σ6 =>
  some (r5, σ6))
theorem c_M_pairs {σ : xSt} {r : Int × xSt} (hf : f_M_pairs σ = some r) : Call (2 + 1) 294 [vR 111] σ (tIW r).1 (tIW r).2 := by
  unfold f_M_pairs at hf
  refine call_of (own := 12) (rk := 1) (cd := kX12_pairs) (ls := [some (vR 111), none]) (rT := tIW) rfl rfl rfl rfl rfl ?_
  refine run_seg (k := 3) (s' := (5, [some (vR 111), none], [], upS σ 111 0 0)) rfl ?_
  refine run_let (fun σ1 => (5, [some (vR 111), none], [], σ1)) hf (fun σ1 hf => ?_)
  refine run_seg (k := 3) (s' := (10, [some (vR 111), none], [vI 600, vI 0, vR 111], σ1)) rfl ?_
  refine run_callW (w := fun a => some (vI a)) (m := 290) (as := [vR 111, vI 0, vI 600]) (pc := 13) (ls := [some (vR 111), none]) (st' := []) (σ := σ1) hf rfl (fun _ _ h => (c_M_takeRow h).mono (by decide)) (fun r2 σ3 hf => ?_)
  refine run_seg (k := 4) (s' := (if r2 = (-1) then (19, [some (vR 111), some (vI r2)], [], σ3) else (21, [some (vR 111), some (vI r2)], [], σ3))) rfl ?_
  refine run_ite hf (fun _ hf => ?_) (fun _ hf => ?_)
  · refine run_seg (k := 1) (s' := (20, [some (vR 111), some (vI r2)], [vI (-1)], σ3)) rfl ?_
    exact run_ret hf rfl
  · refine run_seg (k := 3) (s' := (24, [some (vR 111), some (vI r2)], [vI r2, vI 0, vR 111], σ3)) rfl ?_
    refine run_callV (m := 293) (as := [vR 111, vI 0, vI r2]) (pc := 27) (ls := [some (vR 111), some (vI r2)]) (st' := []) (σ := σ3) hf rfl (fun _ h => (c_M_pairsOf h).mono (by decide)) (fun σ4 hf => ?_)
    refine run_seg (k := 1) (s' := (28, [some (vR 111), some (vI r2)], [vR 111], σ4)) rfl ?_
    refine run_callW (w := fun a => some (vI a)) (m := 291) (as := [vR 111]) (pc := 31) (ls := [some (vR 111), some (vI r2)]) (st' := []) (σ := σ4) hf rfl (fun _ _ h => (c_M_tellBits h).mono (by decide)) (fun r5 σ6 hf => ?_)
    exact run_ret hf rfl
def f_M_spare_66 (q_M_spare : (Int → Int → xSt → Option (xSt))) (k22 : (Int → Int → Int → Int → Int → xSt → Option (xSt))) (l1 : Int) (l2 : Int) (l3 : Int) (l4 : Int) (l5 : Int) (s0 : Int) (s1 : Int) (σ : xSt) : Option (xSt) :=
  if 0 ≤ s1 ∧ s1 < 2600 then (
  xlet (upS σ 125 s1.toNat s0) fun σ4 =>
  xlet (w32 (l4 + 1)) fun x5 =>
  xlet (w32 (l5 + 2)) fun x6 =>
  k22 l1 l2 l3 x5 x6 σ4) else none
def f_M_spare_89 (q_M_spare : (Int → Int → xSt → Option (xSt))) : Nat → Int → Int → Int → Int → Int → xSt → Option (xSt)
  | 0, _, _, _, _, _, _ => none
  | n + 1, l1, l2, l3, l4, l5, σ =>
    if w32 (l5 + 1) < l2 then (if 0 ≤ w32 (l1 + l5) ∧ w32 (l1 + l5) < 2600 then (
    if 0 ≤ w32 ((w32 (l1 + l5)) + 1) ∧ w32 ((w32 (l1 + l5)) + 1) < 2600 then (
    if σ 125 (w32 (l1 + l5)).toNat = σ 125 (w32 ((w32 (l1 + l5)) + 1)).toNat then (if 0 ≤ w32 (l1 + l5) ∧ w32 (l1 + l5) < 2600 then (
    if 0 ≤ w32 (l3 + l4) ∧ w32 (l3 + l4) < 2600 then (
    xlet (upS σ 125 (w32 (l3 + l4)).toNat (σ 125 (w32 (l1 + l5)).toNat)) fun σ7 =>
    xlet (w32 (l4 + 1)) fun x8 =>
    xlet (w32 (l5 + 2)) fun x9 =>
    f_M_spare_89 q_M_spare n l1 l2 l3 x8 x9 σ7) else none) else none)
    else (xlet (w32 (l5 + 2)) fun x10 =>
    f_M_spare_89 q_M_spare n l1 l2 l3 l4 x10 σ)) else none) else none)
    else (xbR (q_M_spare l3 l4 σ) fun σ11 =>
    some σ11)
def f_M_spare_22 (q_M_spare : (Int → Int → xSt → Option (xSt))) : Nat → Int → Int → Int → Int → Int → xSt → Option (xSt)
  | 0, _, _, _, _, _, _ => none
  | n + 1, l1, l2, l3, l4, l5, σ =>
    if w32 (l5 + 1) < l2 then (if 0 ≤ w32 (l1 + l5) ∧ w32 (l1 + l5) < 2600 then (
    if 0 ≤ w32 ((w32 (l1 + l5)) + 1) ∧ w32 ((w32 (l1 + l5)) + 1) < 2600 then (
    if σ 125 (w32 (l1 + l5)).toNat = σ 125 (w32 ((w32 (l1 + l5)) + 1)).toNat then (f_M_spare_66 q_M_spare (fun z0 z1 z2 z3 z4 sz => f_M_spare_22 q_M_spare n z0 z1 z2 z3 z4 sz) l1 l2 l3 l4 l5 0 (w32 (l3 + l4)) σ)
    else (f_M_spare_66 q_M_spare (fun z0 z1 z2 z3 z4 sz => f_M_spare_22 q_M_spare n z0 z1 z2 z3 z4 sz) l1 l2 l3 l4 l5 1 (w32 (l3 + l4)) σ)) else none) else none)
    else (xbR (q_M_spare l3 l4 σ) fun σ3 =>
    f_M_spare_89 q_M_spare 1000000 l1 l2 l3 0 0 σ3)
/-- BentPennyModel.spare(II)V -/
def f0_M_spare (q_M_spare : (Int → Int → xSt → Option (xSt))) (p1 : Int) (p2 : Int) (σ : xSt) : Option (xSt) :=
  if p2 < 2 then (some σ)
  else (xbR (f_M_pairsOf p1 p2 σ) fun σ1 =>
  xlet (w32 (p1 + p2)) fun x2 =>
  f_M_spare_22 q_M_spare 1000000 p1 p2 x2 0 0 σ1)
theorem r_M_spare_66 {d : Nat} (hd : 2 ≤ d) {q_M_spare : (Int → Int → xSt → Option (xSt))} (hq_M_spare : ∀ {p1 : Int} {p2 : Int} {σ : xSt} {r : xSt}, q_M_spare p1 p2 σ = some r → Call d 295 [vR 111, vI p1, vI p2] σ (tV r).1 (tV r).2) {k22 : (Int → Int → Int → Int → Int → xSt → Option (xSt))} (hk22 : ∀ {l1 : Int} {l2 : Int} {l3 : Int} {l4 : Int} {l5 : Int} {σ : xSt} {r : xSt}, k22 l1 l2 l3 l4 l5 σ = some r → Run d 12 0 kX12_spare (22, [some (vR 111), some (vI l1), some (vI l2), some (vI l3), some (vI l4), some (vI l5)], [], σ) (tV r)) {l1 : Int} {l2 : Int} {l3 : Int} {l4 : Int} {l5 : Int} {s0 : Int} {s1 : Int} {σ : xSt} {r : xSt} (hf : f_M_spare_66 q_M_spare k22 l1 l2 l3 l4 l5 s0 s1 σ = some r) : Run d 12 0 kX12_spare (66, [some (vR 111), some (vI l1), some (vI l2), some (vI l3), some (vI l4), some (vI l5)], [vI s0, vI s1, vR 125], σ) (tV r) := by
  unfold f_M_spare_66 at hf
  refine run_guard (s' := (67, [some (vR 111), some (vI l1), some (vI l2), some (vI l3), some (vI l4), some (vI l5)], [], upS σ 125 s1.toNat s0)) hf rfl (fun hf => ?_)
  refine run_let (fun σ4 => (67, [some (vR 111), some (vI l1), some (vI l2), some (vI l3), some (vI l4), some (vI l5)], [], σ4)) hf (fun σ4 hf => ?_)
  refine run_seg (k := 1) (s' := (70, [some (vR 111), some (vI l1), some (vI l2), some (vI l3), some (vI (w32 (l4 + 1))), some (vI l5)], [], σ4)) rfl ?_
  refine run_let (fun x5 => (70, [some (vR 111), some (vI l1), some (vI l2), some (vI l3), some (vI x5), some (vI l5)], [], σ4)) hf (fun x5 hf => ?_)
  refine run_seg (k := 1) (s' := (73, [some (vR 111), some (vI l1), some (vI l2), some (vI l3), some (vI x5), some (vI (w32 (l5 + 2)))], [], σ4)) rfl ?_
  refine run_let (fun x6 => (73, [some (vR 111), some (vI l1), some (vI l2), some (vI l3), some (vI x5), some (vI x6)], [], σ4)) hf (fun x6 hf => ?_)
  refine run_seg (k := 1) (s' := (22, [some (vR 111), some (vI l1), some (vI l2), some (vI l3), some (vI x5), some (vI x6)], [], σ4)) rfl ?_
  exact hk22 hf
theorem r_M_spare_89 {d : Nat} (hd : 2 ≤ d) {q_M_spare : (Int → Int → xSt → Option (xSt))} (hq_M_spare : ∀ {p1 : Int} {p2 : Int} {σ : xSt} {r : xSt}, q_M_spare p1 p2 σ = some r → Call d 295 [vR 111, vI p1, vI p2] σ (tV r).1 (tV r).2) : ∀ (n : Nat) {l1 : Int} {l2 : Int} {l3 : Int} {l4 : Int} {l5 : Int} {σ : xSt} {r : xSt}, f_M_spare_89 q_M_spare n l1 l2 l3 l4 l5 σ = some r → Run d 12 0 kX12_spare (89, [some (vR 111), some (vI l1), some (vI l2), some (vI l3), some (vI l4), some (vI l5)], [], σ) (tV r) := by
  intro n
  induction n with
  | zero =>
    intro _ _ _ _ _ _ _ h
    exact nomatch (show (none : Option (xSt)) = some _ from h)
  | succ n ih =>
    intro l1 l2 l3 l4 l5 σ r hf
    unfold f_M_spare_89 at hf
    refine run_seg (k := 5) (s' := (if w32 (l5 + 1) < l2 then (97, [some (vR 111), some (vI l1), some (vI l2), some (vI l3), some (vI l4), some (vI l5)], [], σ) else (150, [some (vR 111), some (vI l1), some (vI l2), some (vI l3), some (vI l4), some (vI l5)], [], σ))) rfl ?_
    refine run_ite hf (fun _ hf => ?_) (fun _ hf => ?_)
    · refine run_seg (k := 5) (s' := (105, [some (vR 111), some (vI l1), some (vI l2), some (vI l3), some (vI l4), some (vI l5)], [vI (w32 (l1 + l5)), vR 125], σ)) rfl ?_
      refine run_guard (s' := (106, [some (vR 111), some (vI l1), some (vI l2), some (vI l3), some (vI l4), some (vI l5)], [vI (σ 125 (w32 (l1 + l5)).toNat)], σ)) hf rfl (fun hf => ?_)
      refine run_seg (k := 7) (s' := (116, [some (vR 111), some (vI l1), some (vI l2), some (vI l3), some (vI l4), some (vI l5)], [vI (w32 ((w32 (l1 + l5)) + 1)), vR 125, vI (σ 125 (w32 (l1 + l5)).toNat)], σ)) rfl ?_
      refine run_guard (s' := (117, [some (vR 111), some (vI l1), some (vI l2), some (vI l3), some (vI l4), some (vI l5)], [vI (σ 125 (w32 ((w32 (l1 + l5)) + 1)).toNat), vI (σ 125 (w32 (l1 + l5)).toNat)], σ)) hf rfl (fun hf => ?_)
      refine run_seg (k := 1) (s' := (if σ 125 (w32 (l1 + l5)).toNat = σ 125 (w32 ((w32 (l1 + l5)) + 1)).toNat then (123, [some (vR 111), some (vI l1), some (vI l2), some (vI l3), some (vI l4), some (vI l5)], [], σ) else (120, [some (vR 111), some (vI l1), some (vI l2), some (vI l3), some (vI l4), some (vI l5)], [], σ))) rfl ?_
      refine run_ite hf (fun _ hf => ?_) (fun _ hf => ?_)
      · refine run_seg (k := 10) (s' := (139, [some (vR 111), some (vI l1), some (vI l2), some (vI l3), some (vI l4), some (vI l5)], [vI (w32 (l1 + l5)), vR 125, vI (w32 (l3 + l4)), vR 125], σ)) rfl ?_
        refine run_guard (s' := (140, [some (vR 111), some (vI l1), some (vI l2), some (vI l3), some (vI l4), some (vI l5)], [vI (σ 125 (w32 (l1 + l5)).toNat), vI (w32 (l3 + l4)), vR 125], σ)) hf rfl (fun hf => ?_)
        refine run_guard (s' := (141, [some (vR 111), some (vI l1), some (vI l2), some (vI l3), some (vI l4), some (vI l5)], [], upS σ 125 (w32 (l3 + l4)).toNat (σ 125 (w32 (l1 + l5)).toNat))) hf rfl (fun hf => ?_)
        refine run_let (fun σ7 => (141, [some (vR 111), some (vI l1), some (vI l2), some (vI l3), some (vI l4), some (vI l5)], [], σ7)) hf (fun σ7 hf => ?_)
        refine run_seg (k := 1) (s' := (144, [some (vR 111), some (vI l1), some (vI l2), some (vI l3), some (vI (w32 (l4 + 1))), some (vI l5)], [], σ7)) rfl ?_
        refine run_let (fun x8 => (144, [some (vR 111), some (vI l1), some (vI l2), some (vI l3), some (vI x8), some (vI l5)], [], σ7)) hf (fun x8 hf => ?_)
        refine run_seg (k := 1) (s' := (147, [some (vR 111), some (vI l1), some (vI l2), some (vI l3), some (vI x8), some (vI (w32 (l5 + 2)))], [], σ7)) rfl ?_
        refine run_let (fun x9 => (147, [some (vR 111), some (vI l1), some (vI l2), some (vI l3), some (vI x8), some (vI x9)], [], σ7)) hf (fun x9 hf => ?_)
        refine run_seg (k := 1) (s' := (89, [some (vR 111), some (vI l1), some (vI l2), some (vI l3), some (vI x8), some (vI x9)], [], σ7)) rfl ?_
        exact ih hf
      · refine run_seg (k := 2) (s' := (147, [some (vR 111), some (vI l1), some (vI l2), some (vI l3), some (vI l4), some (vI (w32 (l5 + 2)))], [], σ)) rfl ?_
        refine run_let (fun x10 => (147, [some (vR 111), some (vI l1), some (vI l2), some (vI l3), some (vI l4), some (vI x10)], [], σ)) hf (fun x10 hf => ?_)
        refine run_seg (k := 1) (s' := (89, [some (vR 111), some (vI l1), some (vI l2), some (vI l3), some (vI l4), some (vI x10)], [], σ)) rfl ?_
        exact ih hf
    · refine run_seg (k := 3) (s' := (154, [some (vR 111), some (vI l1), some (vI l2), some (vI l3), some (vI l4), some (vI l5)], [vI l4, vI l3, vR 111], σ)) rfl ?_
      refine run_callV (m := 295) (as := [vR 111, vI l3, vI l4]) (pc := 157) (ls := [some (vR 111), some (vI l1), some (vI l2), some (vI l3), some (vI l4), some (vI l5)]) (st' := []) (σ := σ) hf rfl (fun _ h => (hq_M_spare h)) (fun σ11 hf => ?_)
      exact run_ret hf rfl
theorem r_M_spare_22 {d : Nat} (hd : 2 ≤ d) {q_M_spare : (Int → Int → xSt → Option (xSt))} (hq_M_spare : ∀ {p1 : Int} {p2 : Int} {σ : xSt} {r : xSt}, q_M_spare p1 p2 σ = some r → Call d 295 [vR 111, vI p1, vI p2] σ (tV r).1 (tV r).2) : ∀ (n : Nat) {l1 : Int} {l2 : Int} {l3 : Int} {l4 : Int} {l5 : Int} {σ : xSt} {r : xSt}, f_M_spare_22 q_M_spare n l1 l2 l3 l4 l5 σ = some r → Run d 12 0 kX12_spare (22, [some (vR 111), some (vI l1), some (vI l2), some (vI l3), some (vI l4), some (vI l5)], [], σ) (tV r) := by
  intro n
  induction n with
  | zero =>
    intro _ _ _ _ _ _ _ h
    exact nomatch (show (none : Option (xSt)) = some _ from h)
  | succ n ih =>
    intro l1 l2 l3 l4 l5 σ r hf
    unfold f_M_spare_22 at hf
    refine run_seg (k := 5) (s' := (if w32 (l5 + 1) < l2 then (30, [some (vR 111), some (vI l1), some (vI l2), some (vI l3), some (vI l4), some (vI l5)], [], σ) else (76, [some (vR 111), some (vI l1), some (vI l2), some (vI l3), some (vI l4), some (vI l5)], [], σ))) rfl ?_
    refine run_ite hf (fun _ hf => ?_) (fun _ hf => ?_)
    · refine run_seg (k := 10) (s' := (46, [some (vR 111), some (vI l1), some (vI l2), some (vI l3), some (vI l4), some (vI l5)], [vI (w32 (l1 + l5)), vR 125, vI (w32 (l3 + l4)), vR 125], σ)) rfl ?_
      refine run_guard (s' := (47, [some (vR 111), some (vI l1), some (vI l2), some (vI l3), some (vI l4), some (vI l5)], [vI (σ 125 (w32 (l1 + l5)).toNat), vI (w32 (l3 + l4)), vR 125], σ)) hf rfl (fun hf => ?_)
      refine run_seg (k := 7) (s' := (57, [some (vR 111), some (vI l1), some (vI l2), some (vI l3), some (vI l4), some (vI l5)], [vI (w32 ((w32 (l1 + l5)) + 1)), vR 125, vI (σ 125 (w32 (l1 + l5)).toNat), vI (w32 (l3 + l4)), vR 125], σ)) rfl ?_
      refine run_guard (s' := (58, [some (vR 111), some (vI l1), some (vI l2), some (vI l3), some (vI l4), some (vI l5)], [vI (σ 125 (w32 ((w32 (l1 + l5)) + 1)).toNat), vI (σ 125 (w32 (l1 + l5)).toNat), vI (w32 (l3 + l4)), vR 125], σ)) hf rfl (fun hf => ?_)
      refine run_seg (k := 1) (s' := (if σ 125 (w32 (l1 + l5)).toNat = σ 125 (w32 ((w32 (l1 + l5)) + 1)).toNat then (65, [some (vR 111), some (vI l1), some (vI l2), some (vI l3), some (vI l4), some (vI l5)], [vI (w32 (l3 + l4)), vR 125], σ) else (61, [some (vR 111), some (vI l1), some (vI l2), some (vI l3), some (vI l4), some (vI l5)], [vI (w32 (l3 + l4)), vR 125], σ))) rfl ?_
      refine run_ite hf (fun _ hf => ?_) (fun _ hf => ?_)
      · refine run_seg (k := 1) (s' := (66, [some (vR 111), some (vI l1), some (vI l2), some (vI l3), some (vI l4), some (vI l5)], [vI 0, vI (w32 (l3 + l4)), vR 125], σ)) rfl ?_
        exact r_M_spare_66 hd hq_M_spare (fun h => ih h) hf
      · refine run_seg (k := 2) (s' := (66, [some (vR 111), some (vI l1), some (vI l2), some (vI l3), some (vI l4), some (vI l5)], [vI 1, vI (w32 (l3 + l4)), vR 125], σ)) rfl ?_
        exact r_M_spare_66 hd hq_M_spare (fun h => ih h) hf
    · refine run_seg (k := 3) (s' := (80, [some (vR 111), some (vI l1), some (vI l2), some (vI l3), some (vI l4), some (vI l5)], [vI l4, vI l3, vR 111], σ)) rfl ?_
      refine run_callV (m := 295) (as := [vR 111, vI l3, vI l4]) (pc := 83) (ls := [some (vR 111), some (vI l1), some (vI l2), some (vI l3), some (vI l4), some (vI l5)]) (st' := []) (σ := σ) hf rfl (fun _ h => (hq_M_spare h)) (fun σ3 hf => ?_)
      refine run_seg (k := 4) (s' := (89, [some (vR 111), some (vI l1), some (vI l2), some (vI l3), some (vI 0), some (vI 0)], [], σ3)) rfl ?_
      exact r_M_spare_89 hd hq_M_spare 1000000 hf
theorem c0_M_spare {d : Nat} (hd : 2 ≤ d) {q_M_spare : (Int → Int → xSt → Option (xSt))} (hq_M_spare : ∀ {p1 : Int} {p2 : Int} {σ : xSt} {r : xSt}, q_M_spare p1 p2 σ = some r → Call d 295 [vR 111, vI p1, vI p2] σ (tV r).1 (tV r).2) {p1 : Int} {p2 : Int} {σ : xSt} {r : xSt} (hf : f0_M_spare q_M_spare p1 p2 σ = some r) : Call (d + 1) 295 [vR 111, vI p1, vI p2] σ (tV r).1 (tV r).2 := by
  unfold f0_M_spare at hf
  refine call_of (own := 12) (rk := 0) (cd := kX12_spare) (ls := [some (vR 111), some (vI p1), some (vI p2), none, none, none]) (rT := tV) rfl rfl rfl rfl rfl ?_
  refine run_seg (k := 3) (s' := (if p2 < 2 then (5, [some (vR 111), some (vI p1), some (vI p2), none, none, none], [], σ) else (6, [some (vR 111), some (vI p1), some (vI p2), none, none, none], [], σ))) rfl ?_
  refine run_ite hf (fun _ hf => ?_) (fun _ hf => ?_)
  · exact run_ret hf rfl
  · refine run_seg (k := 3) (s' := (9, [some (vR 111), some (vI p1), some (vI p2), none, none, none], [vI p2, vI p1, vR 111], σ)) rfl ?_
    refine run_callV (m := 293) (as := [vR 111, vI p1, vI p2]) (pc := 12) (ls := [some (vR 111), some (vI p1), some (vI p2), none, none, none]) (st' := []) (σ := σ) hf rfl (fun _ h => (c_M_pairsOf h).mono (Nat.le_trans (by decide) hd)) (fun σ1 hf => ?_)
    refine run_seg (k := 4) (s' := (16, [some (vR 111), some (vI p1), some (vI p2), some (vI (w32 (p1 + p2))), none, none], [], σ1)) rfl ?_
    refine run_let (fun x2 => (16, [some (vR 111), some (vI p1), some (vI p2), some (vI x2), none, none], [], σ1)) hf (fun x2 hf => ?_)
    refine run_seg (k := 4) (s' := (22, [some (vR 111), some (vI p1), some (vI p2), some (vI x2), some (vI 0), some (vI 0)], [], σ1)) rfl ?_
    exact r_M_spare_22 hd hq_M_spare 1000000 hf
def g_M_spare : Nat → (Int → Int → xSt → Option (xSt))
  | 0 => ((fun _ _ _ => none))
  | n + 1 => ((fun p1 p2 σ => f0_M_spare (g_M_spare n) p1 p2 σ))
def f_M_spare (n : Nat) (p1 : Int) (p2 : Int) (σ : xSt) : Option (xSt) := g_M_spare n p1 p2 σ
theorem hg_M_spare : ∀ n, (∀ {p1 : Int} {p2 : Int} {σ : xSt} {r : xSt}, f_M_spare n p1 p2 σ = some r → Call (2 + n) 295 [vR 111, vI p1, vI p2] σ (tV r).1 (tV r).2) := by
  intro n
  induction n with
  | zero => exact fun h => nomatch (show (none : Option (xSt)) = some _ from h)
  | succ n ih => exact fun h => c0_M_spare (Nat.le_add_right 2 n) (fun h => ih h) h
theorem c_M_spare {p1 : Int} {p2 : Int} {σ : xSt} {r : xSt} (hf : f_M_spare 60 p1 p2 σ = some r) : Call 62 295 [vR 111, vI p1, vI p2] σ (tV r).1 (tV r).2 := (hg_M_spare 60) hf
/-- BentPennyModel.spared()I -/
def f_M_spared (σ : xSt) : Option (Int × xSt) :=
  xlet (upS σ 111 0 0) fun σ1 =>
  xbW (f_M_takeRow 0 600 σ1) fun r2 σ3 =>
  if r2 = (-1) then (some ((-1), σ3))
  else (xbR (f_M_spare 60 0 r2 σ3) fun σ4 =>
  xbW (f_M_tellBits σ4) fun r5 σ6 =>
  some (r5, σ6))
theorem c_M_spared {σ : xSt} {r : Int × xSt} (hf : f_M_spared σ = some r) : Call (62 + 1) 296 [vR 111] σ (tIW r).1 (tIW r).2 := by
  unfold f_M_spared at hf
  refine call_of (own := 12) (rk := 1) (cd := kX12_spared) (ls := [some (vR 111), none]) (rT := tIW) rfl rfl rfl rfl rfl ?_
  refine run_seg (k := 3) (s' := (5, [some (vR 111), none], [], upS σ 111 0 0)) rfl ?_
  refine run_let (fun σ1 => (5, [some (vR 111), none], [], σ1)) hf (fun σ1 hf => ?_)
  refine run_seg (k := 3) (s' := (10, [some (vR 111), none], [vI 600, vI 0, vR 111], σ1)) rfl ?_
  refine run_callW (w := fun a => some (vI a)) (m := 290) (as := [vR 111, vI 0, vI 600]) (pc := 13) (ls := [some (vR 111), none]) (st' := []) (σ := σ1) hf rfl (fun _ _ h => (c_M_takeRow h).mono (by decide)) (fun r2 σ3 hf => ?_)
  refine run_seg (k := 4) (s' := (if r2 = (-1) then (19, [some (vR 111), some (vI r2)], [], σ3) else (21, [some (vR 111), some (vI r2)], [], σ3))) rfl ?_
  refine run_ite hf (fun _ hf => ?_) (fun _ hf => ?_)
  · refine run_seg (k := 1) (s' := (20, [some (vR 111), some (vI r2)], [vI (-1)], σ3)) rfl ?_
    exact run_ret hf rfl
  · refine run_seg (k := 3) (s' := (24, [some (vR 111), some (vI r2)], [vI r2, vI 0, vR 111], σ3)) rfl ?_
    refine run_callV (m := 295) (as := [vR 111, vI 0, vI r2]) (pc := 27) (ls := [some (vR 111), some (vI r2)]) (st' := []) (σ := σ3) hf rfl (fun _ h => (c_M_spare h).mono (by decide)) (fun σ4 hf => ?_)
    refine run_seg (k := 1) (s' := (28, [some (vR 111), some (vI r2)], [vR 111], σ4)) rfl ?_
    refine run_callW (w := fun a => some (vI a)) (m := 291) (as := [vR 111]) (pc := 31) (ls := [some (vR 111), some (vI r2)]) (st' := []) (σ := σ4) hf rfl (fun _ _ h => (c_M_tellBits h).mono (by decide)) (fun r5 σ6 hf => ?_)
    exact run_ret hf rfl
def f_M_pasts_32 (k23 : (Int → Int → xSt → Option (Int × xSt))) : Nat → Int → Int → Int → Int → xSt → Option (Int × xSt)
  | 0, _, _, _, _, _ => none
  | n + 1, l1, l2, l3, l4, σ =>
    if w32 (l4 + 1) < l1 then (if 0 ≤ l4 ∧ l4 < 2600 then (
    if σ 125 l4.toNat = l2 then (if 0 ≤ w32 (l4 + 1) ∧ w32 (l4 + 1) < 2600 then (
    if 0 ≤ w32 (l1 + l3) ∧ w32 (l1 + l3) < 2600 then (
    xlet (upS σ 125 (w32 (l1 + l3)).toNat (σ 125 (w32 (l4 + 1)).toNat)) fun σ6 =>
    xlet (w32 (l3 + 1)) fun x7 =>
    xlet (w32 (l4 + 1)) fun x8 =>
    f_M_pasts_32 k23 n l1 l2 x7 x8 σ6) else none) else none)
    else (xlet (w32 (l4 + 1)) fun x9 =>
    f_M_pasts_32 k23 n l1 l2 l3 x9 σ)) else none)
    else (xbR (f_M_pairsOf l1 (w32 (l3 - 1)) σ) fun σ10 =>
    xlet (w32 (l2 + (-1))) fun x11 =>
    k23 l1 x11 σ10)
def f_M_pasts_23 : Nat → Int → Int → xSt → Option (Int × xSt)
  | 0, _, _, _ => none
  | n + 1, l1, l2, σ =>
    if l2 < 0 then (xbW (f_M_tellBits σ) fun r4 σ5 =>
    some (r4, σ5))
    else (f_M_pasts_32 (fun z0 z1 sz => f_M_pasts_23 n z0 z1 sz) 1000000 l1 l2 0 0 σ)
/-- BentPennyModel.pasts()I -/
def f_M_pasts (σ : xSt) : Option (Int × xSt) :=
  xlet (upS σ 111 0 0) fun σ1 =>
  xbW (f_M_takeRow 0 600 σ1) fun r2 σ3 =>
  if r2 = (-1) then (some ((-1), σ3))
  else (f_M_pasts_23 1000000 r2 1 σ3)
theorem r_M_pasts_32 {k23 : (Int → Int → xSt → Option (Int × xSt))} (hk23 : ∀ {l1 : Int} {l2 : Int} {g3 : Option xV} {g4 : Option xV} {σ : xSt} {r : Int × xSt}, k23 l1 l2 σ = some r → Run 2 12 1 kX12_pasts (23, [some (vR 111), some (vI l1), some (vI l2), g3, g4], [], σ) (tIW r)) : ∀ (n : Nat) {l1 : Int} {l2 : Int} {l3 : Int} {l4 : Int} {σ : xSt} {r : Int × xSt}, f_M_pasts_32 k23 n l1 l2 l3 l4 σ = some r → Run 2 12 1 kX12_pasts (32, [some (vR 111), some (vI l1), some (vI l2), some (vI l3), some (vI l4)], [], σ) (tIW r) := by
  intro n
  induction n with
  | zero =>
    intro _ _ _ _ _ _ h
    exact nomatch (show (none : Option (Int × xSt)) = some _ from h)
  | succ n ih =>
    intro l1 l2 l3 l4 σ r hf
    unfold f_M_pasts_32 at hf
    refine run_seg (k := 5) (s' := (if w32 (l4 + 1) < l1 then (40, [some (vR 111), some (vI l1), some (vI l2), some (vI l3), some (vI l4)], [], σ) else (80, [some (vR 111), some (vI l1), some (vI l2), some (vI l3), some (vI l4)], [], σ))) rfl ?_
    refine run_ite hf (fun _ hf => ?_) (fun _ hf => ?_)
    · refine run_seg (k := 3) (s' := (46, [some (vR 111), some (vI l1), some (vI l2), some (vI l3), some (vI l4)], [vI l4, vR 125], σ)) rfl ?_
      refine run_guard (s' := (47, [some (vR 111), some (vI l1), some (vI l2), some (vI l3), some (vI l4)], [vI (σ 125 l4.toNat)], σ)) hf rfl (fun hf => ?_)
      refine run_seg (k := 2) (s' := (if σ 125 l4.toNat = l2 then (54, [some (vR 111), some (vI l1), some (vI l2), some (vI l3), some (vI l4)], [], σ) else (51, [some (vR 111), some (vI l1), some (vI l2), some (vI l3), some (vI l4)], [], σ))) rfl ?_
      refine run_ite hf (fun _ hf => ?_) (fun _ hf => ?_)
      · refine run_seg (k := 10) (s' := (69, [some (vR 111), some (vI l1), some (vI l2), some (vI l3), some (vI l4)], [vI (w32 (l4 + 1)), vR 125, vI (w32 (l1 + l3)), vR 125], σ)) rfl ?_
        refine run_guard (s' := (70, [some (vR 111), some (vI l1), some (vI l2), some (vI l3), some (vI l4)], [vI (σ 125 (w32 (l4 + 1)).toNat), vI (w32 (l1 + l3)), vR 125], σ)) hf rfl (fun hf => ?_)
        refine run_guard (s' := (71, [some (vR 111), some (vI l1), some (vI l2), some (vI l3), some (vI l4)], [], upS σ 125 (w32 (l1 + l3)).toNat (σ 125 (w32 (l4 + 1)).toNat))) hf rfl (fun hf => ?_)
        refine run_let (fun σ6 => (71, [some (vR 111), some (vI l1), some (vI l2), some (vI l3), some (vI l4)], [], σ6)) hf (fun σ6 hf => ?_)
        refine run_seg (k := 1) (s' := (74, [some (vR 111), some (vI l1), some (vI l2), some (vI (w32 (l3 + 1))), some (vI l4)], [], σ6)) rfl ?_
        refine run_let (fun x7 => (74, [some (vR 111), some (vI l1), some (vI l2), some (vI x7), some (vI l4)], [], σ6)) hf (fun x7 hf => ?_)
        refine run_seg (k := 1) (s' := (77, [some (vR 111), some (vI l1), some (vI l2), some (vI x7), some (vI (w32 (l4 + 1)))], [], σ6)) rfl ?_
        refine run_let (fun x8 => (77, [some (vR 111), some (vI l1), some (vI l2), some (vI x7), some (vI x8)], [], σ6)) hf (fun x8 hf => ?_)
        refine run_seg (k := 1) (s' := (32, [some (vR 111), some (vI l1), some (vI l2), some (vI x7), some (vI x8)], [], σ6)) rfl ?_
        exact ih hf
      · refine run_seg (k := 2) (s' := (77, [some (vR 111), some (vI l1), some (vI l2), some (vI l3), some (vI (w32 (l4 + 1)))], [], σ)) rfl ?_
        refine run_let (fun x9 => (77, [some (vR 111), some (vI l1), some (vI l2), some (vI l3), some (vI x9)], [], σ)) hf (fun x9 hf => ?_)
        refine run_seg (k := 1) (s' := (32, [some (vR 111), some (vI l1), some (vI l2), some (vI l3), some (vI x9)], [], σ)) rfl ?_
        exact ih hf
    · refine run_seg (k := 5) (s' := (85, [some (vR 111), some (vI l1), some (vI l2), some (vI l3), some (vI l4)], [vI (w32 (l3 - 1)), vI l1, vR 111], σ)) rfl ?_
      refine run_callV (m := 293) (as := [vR 111, vI l1, vI (w32 (l3 - 1))]) (pc := 88) (ls := [some (vR 111), some (vI l1), some (vI l2), some (vI l3), some (vI l4)]) (st' := []) (σ := σ) hf rfl (fun _ h => (c_M_pairsOf h).mono (by decide)) (fun σ10 hf => ?_)
      refine run_seg (k := 1) (s' := (91, [some (vR 111), some (vI l1), some (vI (w32 (l2 + (-1)))), some (vI l3), some (vI l4)], [], σ10)) rfl ?_
      refine run_let (fun x11 => (91, [some (vR 111), some (vI l1), some (vI x11), some (vI l3), some (vI l4)], [], σ10)) hf (fun x11 hf => ?_)
      refine run_seg (k := 1) (s' := (23, [some (vR 111), some (vI l1), some (vI x11), some (vI l3), some (vI l4)], [], σ10)) rfl ?_
      exact hk23 hf
theorem r_M_pasts_23 : ∀ (n : Nat) {l1 : Int} {l2 : Int} {g3 : Option xV} {g4 : Option xV} {σ : xSt} {r : Int × xSt}, f_M_pasts_23 n l1 l2 σ = some r → Run 2 12 1 kX12_pasts (23, [some (vR 111), some (vI l1), some (vI l2), g3, g4], [], σ) (tIW r) := by
  intro n
  induction n with
  | zero =>
    intro _ _ _ _ _ _ h
    exact nomatch (show (none : Option (Int × xSt)) = some _ from h)
  | succ n ih =>
    intro l1 l2 g3 g4 σ r hf
    unfold f_M_pasts_23 at hf
    refine run_seg (k := 2) (s' := (if l2 < 0 then (94, [some (vR 111), some (vI l1), some (vI l2), g3, g4], [], σ) else (27, [some (vR 111), some (vI l1), some (vI l2), g3, g4], [], σ))) rfl ?_
    refine run_ite hf (fun _ hf => ?_) (fun _ hf => ?_)
    · refine run_seg (k := 1) (s' := (95, [some (vR 111), some (vI l1), some (vI l2), g3, g4], [vR 111], σ)) rfl ?_
      refine run_callW (w := fun a => some (vI a)) (m := 291) (as := [vR 111]) (pc := 98) (ls := [some (vR 111), some (vI l1), some (vI l2), g3, g4]) (st' := []) (σ := σ) hf rfl (fun _ _ h => (c_M_tellBits h).mono (by decide)) (fun r4 σ5 hf => ?_)
      exact run_ret hf rfl
    · refine run_seg (k := 4) (s' := (32, [some (vR 111), some (vI l1), some (vI l2), some (vI 0), some (vI 0)], [], σ)) rfl ?_
      exact r_M_pasts_32 (fun h => ih h) 1000000 hf
theorem c_M_pasts {σ : xSt} {r : Int × xSt} (hf : f_M_pasts σ = some r) : Call (2 + 1) 297 [vR 111] σ (tIW r).1 (tIW r).2 := by
  unfold f_M_pasts at hf
  refine call_of (own := 12) (rk := 1) (cd := kX12_pasts) (ls := [some (vR 111), none, none, none, none]) (rT := tIW) rfl rfl rfl rfl rfl ?_
  refine run_seg (k := 3) (s' := (5, [some (vR 111), none, none, none, none], [], upS σ 111 0 0)) rfl ?_
  refine run_let (fun σ1 => (5, [some (vR 111), none, none, none, none], [], σ1)) hf (fun σ1 hf => ?_)
  refine run_seg (k := 3) (s' := (10, [some (vR 111), none, none, none, none], [vI 600, vI 0, vR 111], σ1)) rfl ?_
  refine run_callW (w := fun a => some (vI a)) (m := 290) (as := [vR 111, vI 0, vI 600]) (pc := 13) (ls := [some (vR 111), none, none, none, none]) (st' := []) (σ := σ1) hf rfl (fun _ _ h => (c_M_takeRow h).mono (by decide)) (fun r2 σ3 hf => ?_)
  refine run_seg (k := 4) (s' := (if r2 = (-1) then (19, [some (vR 111), some (vI r2), none, none, none], [], σ3) else (21, [some (vR 111), some (vI r2), none, none, none], [], σ3))) rfl ?_
  refine run_ite hf (fun _ hf => ?_) (fun _ hf => ?_)
  · refine run_seg (k := 1) (s' := (20, [some (vR 111), some (vI r2), none, none, none], [vI (-1)], σ3)) rfl ?_
    exact run_ret hf rfl
  · refine run_seg (k := 2) (s' := (23, [some (vR 111), some (vI r2), some (vI 1), none, none], [], σ3)) rfl ?_
    exact r_M_pasts_23 1000000 hf
def f_M_counted_126 (k105 : (Int → Int → Int → xSt → Option (Int × xSt))) (l3 : Int) (l6 : Int) (l8 : Int) (σ : xSt) : Option (Int × xSt) :=
  if xlc (xland (xlshr l6 l8) 1) 1 = 0 then (xlet (w64 (l3 - (xlshl 1 l8))) fun x13 =>
  xlet (w32 (l8 + (-1))) fun x14 =>
  k105 x13 l6 x14 σ)
  else (xlet (w32 (l8 + (-1))) fun x15 =>
  k105 l3 l6 x15 σ)
def f_M_counted_179 (k157 : (Int → Int → xSt → Option (Int × xSt))) (l3 : Int) (l9 : Int) (s0 : Int) (σ : xSt) : Option (Int × xSt) :=
  xbR (f_M_bit s0 σ) fun σ18 =>
  xlet (w32 (l9 + (-1))) fun x19 =>
  k157 l3 x19 σ18
def f_M_counted_157 : Nat → Int → Int → xSt → Option (Int × xSt)
  | 0, _, _, _ => none
  | n + 1, l3, l9, σ =>
    if l9 < 0 then (xbW (f_M_tellBits σ) fun r16 σ17 =>
    some (r16, σ17))
    else (if xlc (xland (xlshr l3 l9) 1) 1 = 0 then (f_M_counted_179 (fun z0 z1 sz => f_M_counted_157 n z0 z1 sz) l3 l9 1 σ)
    else (f_M_counted_179 (fun z0 z1 sz => f_M_counted_157 n z0 z1 sz) l3 l9 0 σ))
def f_M_counted_105 : Nat → Int → Int → Int → xSt → Option (Int × xSt)
  | 0, _, _, _, _ => none
  | n + 1, l3, l6, l8, σ =>
    if xlc (xland (xlshr l6 l8) 1) 0 = 0 then (f_M_counted_126 (fun z0 z1 z2 sz => f_M_counted_105 n z0 z1 z2 sz) l3 l6 l8 σ)
    else (if xlc l3 (xlshl 1 l8) < 0 then (xlet (w32 (l8 - 1)) fun x12 =>
    f_M_counted_157 1000000 l3 x12 σ)
    else (f_M_counted_126 (fun z0 z1 z2 sz => f_M_counted_105 n z0 z1 z2 sz) l3 l6 l8 σ))
def f_M_counted_52 : Nat → Int → Int → Int → Int → Int → xSt → Option (Int × xSt)
  | 0, _, _, _, _, _, _ => none
  | n + 1, l1, l2, l3, l5, l6, σ =>
    if l6 < l1 then (if 0 ≤ l6 ∧ l6 < 2600 then (
    if σ 125 l6.toNat = 0 then (xlet (w32 (l6 + 1)) fun x6 =>
    f_M_counted_52 n l1 l2 l3 l5 x6 σ)
    else (xbR (f_M_choose (w32 ((w32 (l1 - l6)) - 1)) l5 σ) fun r7 =>
    xlet (w64 (l3 + r7)) fun x8 =>
    xlet (w32 (l5 + (-1))) fun x9 =>
    xlet (w32 (l6 + 1)) fun x10 =>
    f_M_counted_52 n l1 l2 x8 x9 x10 σ)) else none)
    else (xbR (f_M_choose l1 l2 σ) fun r11 =>
    f_M_counted_105 1000000 l3 r11 20 σ)
def f_M_counted_24 : Nat → Int → Int → Int → xSt → Option (Int × xSt)
  | 0, _, _, _, _ => none
  | n + 1, l1, l2, l3, σ =>
    if l3 < l1 then (if 0 ≤ l3 ∧ l3 < 2600 then (
    xlet (w32 (l2 + (σ 125 l3.toNat))) fun x4 =>
    xlet (w32 (l3 + 1)) fun x5 =>
    f_M_counted_24 n l1 x4 x5 σ) else none)
    else (f_M_counted_52 1000000 l1 l2 0 l2 0 σ)
/-- BentPennyModel.counted()I -/
def f_M_counted (σ : xSt) : Option (Int × xSt) :=
  xlet (upS σ 111 0 0) fun σ1 =>
  xbW (f_M_takeRow 1 16 σ1) fun r2 σ3 =>
  if r2 = (-1) then (some ((-1), σ3))
  else (f_M_counted_24 1000000 r2 0 0 σ3)
theorem r_M_counted_126 {k105 : (Int → Int → Int → xSt → Option (Int × xSt))} (hk105 : ∀ {l3 : Int} {l6 : Int} {l8 : Int} {g1 : Option xV} {g2 : Option xV} {g5 : Option xV} {g9 : Option xV} {σ : xSt} {r : Int × xSt}, k105 l3 l6 l8 σ = some r → Run 2 12 1 kX12_counted (105, [some (vR 111), g1, g2, some (vL l3), none, g5, some (vL l6), none, some (vI l8), g9], [], σ) (tIW r)) {l3 : Int} {l6 : Int} {l8 : Int} {g1 : Option xV} {g2 : Option xV} {g5 : Option xV} {g9 : Option xV} {σ : xSt} {r : Int × xSt} (hf : f_M_counted_126 k105 l3 l6 l8 σ = some r) : Run 2 12 1 kX12_counted (126, [some (vR 111), g1, g2, some (vL l3), none, g5, some (vL l6), none, some (vI l8), g9], [], σ) (tIW r) := by
  unfold f_M_counted_126 at hf
  refine run_seg (k := 8) (s' := (if xlc (xland (xlshr l6 l8) 1) 1 = 0 then (138, [some (vR 111), g1, g2, some (vL l3), none, g5, some (vL l6), none, some (vI l8), g9], [], σ) else (145, [some (vR 111), g1, g2, some (vL l3), none, g5, some (vL l6), none, some (vI l8), g9], [], σ))) rfl ?_
  refine run_ite hf (fun _ hf => ?_) (fun _ hf => ?_)
  · refine run_seg (k := 6) (s' := (145, [some (vR 111), g1, g2, some (vL (w64 (l3 - (xlshl 1 l8)))), none, g5, some (vL l6), none, some (vI l8), g9], [], σ)) rfl ?_
    refine run_let (fun x13 => (145, [some (vR 111), g1, g2, some (vL x13), none, g5, some (vL l6), none, some (vI l8), g9], [], σ)) hf (fun x13 hf => ?_)
    refine run_seg (k := 1) (s' := (148, [some (vR 111), g1, g2, some (vL x13), none, g5, some (vL l6), none, some (vI (w32 (l8 + (-1)))), g9], [], σ)) rfl ?_
    refine run_let (fun x14 => (148, [some (vR 111), g1, g2, some (vL x13), none, g5, some (vL l6), none, some (vI x14), g9], [], σ)) hf (fun x14 hf => ?_)
    refine run_seg (k := 1) (s' := (105, [some (vR 111), g1, g2, some (vL x13), none, g5, some (vL l6), none, some (vI x14), g9], [], σ)) rfl ?_
    exact hk105 hf
  · refine run_seg (k := 1) (s' := (148, [some (vR 111), g1, g2, some (vL l3), none, g5, some (vL l6), none, some (vI (w32 (l8 + (-1)))), g9], [], σ)) rfl ?_
    refine run_let (fun x15 => (148, [some (vR 111), g1, g2, some (vL l3), none, g5, some (vL l6), none, some (vI x15), g9], [], σ)) hf (fun x15 hf => ?_)
    refine run_seg (k := 1) (s' := (105, [some (vR 111), g1, g2, some (vL l3), none, g5, some (vL l6), none, some (vI x15), g9], [], σ)) rfl ?_
    exact hk105 hf
theorem r_M_counted_179 {k157 : (Int → Int → xSt → Option (Int × xSt))} (hk157 : ∀ {l3 : Int} {l9 : Int} {g1 : Option xV} {g2 : Option xV} {g5 : Option xV} {g6 : Option xV} {g7 : Option xV} {g8 : Option xV} {σ : xSt} {r : Int × xSt}, k157 l3 l9 σ = some r → Run 2 12 1 kX12_counted (157, [some (vR 111), g1, g2, some (vL l3), none, g5, g6, g7, g8, some (vI l9)], [], σ) (tIW r)) {l3 : Int} {l9 : Int} {s0 : Int} {g1 : Option xV} {g2 : Option xV} {g5 : Option xV} {g6 : Option xV} {g7 : Option xV} {g8 : Option xV} {σ : xSt} {r : Int × xSt} (hf : f_M_counted_179 k157 l3 l9 s0 σ = some r) : Run 2 12 1 kX12_counted (179, [some (vR 111), g1, g2, some (vL l3), none, g5, g6, g7, g8, some (vI l9)], [vI s0, vR 111], σ) (tIW r) := by
  unfold f_M_counted_179 at hf
  refine run_callV (m := 292) (as := [vR 111, vI s0]) (pc := 182) (ls := [some (vR 111), g1, g2, some (vL l3), none, g5, g6, g7, g8, some (vI l9)]) (st' := []) (σ := σ) hf rfl (fun _ h => (c_M_bit h).mono (by decide)) (fun σ18 hf => ?_)
  refine run_seg (k := 1) (s' := (185, [some (vR 111), g1, g2, some (vL l3), none, g5, g6, g7, g8, some (vI (w32 (l9 + (-1))))], [], σ18)) rfl ?_
  refine run_let (fun x19 => (185, [some (vR 111), g1, g2, some (vL l3), none, g5, g6, g7, g8, some (vI x19)], [], σ18)) hf (fun x19 hf => ?_)
  refine run_seg (k := 1) (s' := (157, [some (vR 111), g1, g2, some (vL l3), none, g5, g6, g7, g8, some (vI x19)], [], σ18)) rfl ?_
  exact hk157 hf
theorem r_M_counted_157 : ∀ (n : Nat) {l3 : Int} {l9 : Int} {g1 : Option xV} {g2 : Option xV} {g5 : Option xV} {g6 : Option xV} {g7 : Option xV} {g8 : Option xV} {σ : xSt} {r : Int × xSt}, f_M_counted_157 n l3 l9 σ = some r → Run 2 12 1 kX12_counted (157, [some (vR 111), g1, g2, some (vL l3), none, g5, g6, g7, g8, some (vI l9)], [], σ) (tIW r) := by
  intro n
  induction n with
  | zero =>
    intro _ _ _ _ _ _ _ _ _ _ h
    exact nomatch (show (none : Option (Int × xSt)) = some _ from h)
  | succ n ih =>
    intro l3 l9 g1 g2 g5 g6 g7 g8 σ r hf
    unfold f_M_counted_157 at hf
    refine run_seg (k := 2) (s' := (if l9 < 0 then (188, [some (vR 111), g1, g2, some (vL l3), none, g5, g6, g7, g8, some (vI l9)], [], σ) else (162, [some (vR 111), g1, g2, some (vL l3), none, g5, g6, g7, g8, some (vI l9)], [], σ))) rfl ?_
    refine run_ite hf (fun _ hf => ?_) (fun _ hf => ?_)
    · refine run_seg (k := 1) (s' := (189, [some (vR 111), g1, g2, some (vL l3), none, g5, g6, g7, g8, some (vI l9)], [vR 111], σ)) rfl ?_
      refine run_callW (w := fun a => some (vI a)) (m := 291) (as := [vR 111]) (pc := 192) (ls := [some (vR 111), g1, g2, some (vL l3), none, g5, g6, g7, g8, some (vI l9)]) (st' := []) (σ := σ) hf rfl (fun _ _ h => (c_M_tellBits h).mono (by decide)) (fun r16 σ17 hf => ?_)
      exact run_ret hf rfl
    · refine run_seg (k := 9) (s' := (if xlc (xland (xlshr l3 l9) 1) 1 = 0 then (174, [some (vR 111), g1, g2, some (vL l3), none, g5, g6, g7, g8, some (vI l9)], [vR 111], σ) else (178, [some (vR 111), g1, g2, some (vL l3), none, g5, g6, g7, g8, some (vI l9)], [vR 111], σ))) rfl ?_
      refine run_ite hf (fun _ hf => ?_) (fun _ hf => ?_)
      · refine run_seg (k := 2) (s' := (179, [some (vR 111), g1, g2, some (vL l3), none, g5, g6, g7, g8, some (vI l9)], [vI 1, vR 111], σ)) rfl ?_
        exact r_M_counted_179 (fun h => ih h) hf
      · refine run_seg (k := 1) (s' := (179, [some (vR 111), g1, g2, some (vL l3), none, g5, g6, g7, g8, some (vI l9)], [vI 0, vR 111], σ)) rfl ?_
        exact r_M_counted_179 (fun h => ih h) hf
theorem r_M_counted_105 : ∀ (n : Nat) {l3 : Int} {l6 : Int} {l8 : Int} {g1 : Option xV} {g2 : Option xV} {g5 : Option xV} {g9 : Option xV} {σ : xSt} {r : Int × xSt}, f_M_counted_105 n l3 l6 l8 σ = some r → Run 2 12 1 kX12_counted (105, [some (vR 111), g1, g2, some (vL l3), none, g5, some (vL l6), none, some (vI l8), g9], [], σ) (tIW r) := by
  intro n
  induction n with
  | zero =>
    intro _ _ _ _ _ _ _ _ _ h
    exact nomatch (show (none : Option (Int × xSt)) = some _ from h)
  | succ n ih =>
    intro l3 l6 l8 g1 g2 g5 g9 σ r hf
    unfold f_M_counted_105 at hf
    refine run_seg (k := 8) (s' := (if xlc (xland (xlshr l6 l8) 1) 0 = 0 then (126, [some (vR 111), g1, g2, some (vL l3), none, g5, some (vL l6), none, some (vI l8), g9], [], σ) else (117, [some (vR 111), g1, g2, some (vL l3), none, g5, some (vL l6), none, some (vI l8), g9], [], σ))) rfl ?_
    refine run_ite hf (fun _ hf => ?_) (fun _ hf => ?_)
    · exact r_M_counted_126 (fun h => ih h) hf
    · refine run_seg (k := 6) (s' := (if xlc l3 (xlshl 1 l8) < 0 then (151, [some (vR 111), g1, g2, some (vL l3), none, g5, some (vL l6), none, some (vI l8), g9], [], σ) else (126, [some (vR 111), g1, g2, some (vL l3), none, g5, some (vL l6), none, some (vI l8), g9], [], σ))) rfl ?_
      refine run_ite hf (fun _ hf => ?_) (fun _ hf => ?_)
      · refine run_seg (k := 4) (s' := (157, [some (vR 111), g1, g2, some (vL l3), none, g5, some (vL l6), none, some (vI l8), some (vI (w32 (l8 - 1)))], [], σ)) rfl ?_
        refine run_let (fun x12 => (157, [some (vR 111), g1, g2, some (vL l3), none, g5, some (vL l6), none, some (vI l8), some (vI x12)], [], σ)) hf (fun x12 hf => ?_)
        exact r_M_counted_157 1000000 hf
      · exact r_M_counted_126 (fun h => ih h) hf
theorem r_M_counted_52 : ∀ (n : Nat) {l1 : Int} {l2 : Int} {l3 : Int} {l5 : Int} {l6 : Int} {g7 : Option xV} {g8 : Option xV} {g9 : Option xV} {σ : xSt} {r : Int × xSt}, f_M_counted_52 n l1 l2 l3 l5 l6 σ = some r → Run 2 12 1 kX12_counted (52, [some (vR 111), some (vI l1), some (vI l2), some (vL l3), none, some (vI l5), some (vI l6), g7, g8, g9], [], σ) (tIW r) := by
  intro n
  induction n with
  | zero =>
    intro _ _ _ _ _ _ _ _ _ _ h
    exact nomatch (show (none : Option (Int × xSt)) = some _ from h)
  | succ n ih =>
    intro l1 l2 l3 l5 l6 g7 g8 g9 σ r hf
    unfold f_M_counted_52 at hf
    refine run_seg (k := 3) (s' := (if l6 < l1 then (58, [some (vR 111), some (vI l1), some (vI l2), some (vL l3), none, some (vI l5), some (vI l6), g7, g8, g9], [], σ) else (94, [some (vR 111), some (vI l1), some (vI l2), some (vL l3), none, some (vI l5), some (vI l6), g7, g8, g9], [], σ))) rfl ?_
    refine run_ite hf (fun _ hf => ?_) (fun _ hf => ?_)
    · refine run_seg (k := 3) (s' := (64, [some (vR 111), some (vI l1), some (vI l2), some (vL l3), none, some (vI l5), some (vI l6), g7, g8, g9], [vI l6, vR 125], σ)) rfl ?_
      refine run_guard (s' := (65, [some (vR 111), some (vI l1), some (vI l2), some (vL l3), none, some (vI l5), some (vI l6), g7, g8, g9], [vI (σ 125 l6.toNat)], σ)) hf rfl (fun hf => ?_)
      refine run_seg (k := 1) (s' := (if σ 125 l6.toNat = 0 then (68, [some (vR 111), some (vI l1), some (vI l2), some (vL l3), none, some (vI l5), some (vI l6), g7, g8, g9], [], σ) else (71, [some (vR 111), some (vI l1), some (vI l2), some (vL l3), none, some (vI l5), some (vI l6), g7, g8, g9], [], σ))) rfl ?_
      refine run_ite hf (fun _ hf => ?_) (fun _ hf => ?_)
      · refine run_seg (k := 2) (s' := (91, [some (vR 111), some (vI l1), some (vI l2), some (vL l3), none, some (vI l5), some (vI (w32 (l6 + 1))), g7, g8, g9], [], σ)) rfl ?_
        refine run_let (fun x6 => (91, [some (vR 111), some (vI l1), some (vI l2), some (vL l3), none, some (vI l5), some (vI x6), g7, g8, g9], [], σ)) hf (fun x6 hf => ?_)
        refine run_seg (k := 1) (s' := (52, [some (vR 111), some (vI l1), some (vI l2), some (vL l3), none, some (vI l5), some (vI x6), g7, g8, g9], [], σ)) rfl ?_
        exact ih hf
      · refine run_seg (k := 7) (s' := (80, [some (vR 111), some (vI l1), some (vI l2), some (vL l3), none, some (vI l5), some (vI l6), g7, g8, g9], [vI l5, vI (w32 ((w32 (l1 - l6)) - 1)), vL l3], σ)) rfl ?_
        refine run_callN (w := fun a => some (vL a)) (m := 276) (as := [vI (w32 ((w32 (l1 - l6)) - 1)), vI l5]) (pc := 83) (ls := [some (vR 111), some (vI l1), some (vI l2), some (vL l3), none, some (vI l5), some (vI l6), g7, g8, g9]) (st' := [vL l3]) (σ := σ) hf rfl (fun _ h => (c_M_choose h).mono (by decide)) (fun r7 hf => ?_)
        refine run_seg (k := 2) (s' := (85, [some (vR 111), some (vI l1), some (vI l2), some (vL (w64 (l3 + r7))), none, some (vI l5), some (vI l6), g7, g8, g9], [], σ)) rfl ?_
        refine run_let (fun x8 => (85, [some (vR 111), some (vI l1), some (vI l2), some (vL x8), none, some (vI l5), some (vI l6), g7, g8, g9], [], σ)) hf (fun x8 hf => ?_)
        refine run_seg (k := 1) (s' := (88, [some (vR 111), some (vI l1), some (vI l2), some (vL x8), none, some (vI (w32 (l5 + (-1)))), some (vI l6), g7, g8, g9], [], σ)) rfl ?_
        refine run_let (fun x9 => (88, [some (vR 111), some (vI l1), some (vI l2), some (vL x8), none, some (vI x9), some (vI l6), g7, g8, g9], [], σ)) hf (fun x9 hf => ?_)
        refine run_seg (k := 1) (s' := (91, [some (vR 111), some (vI l1), some (vI l2), some (vL x8), none, some (vI x9), some (vI (w32 (l6 + 1))), g7, g8, g9], [], σ)) rfl ?_
        refine run_let (fun x10 => (91, [some (vR 111), some (vI l1), some (vI l2), some (vL x8), none, some (vI x9), some (vI x10), g7, g8, g9], [], σ)) hf (fun x10 hf => ?_)
        refine run_seg (k := 1) (s' := (52, [some (vR 111), some (vI l1), some (vI l2), some (vL x8), none, some (vI x9), some (vI x10), g7, g8, g9], [], σ)) rfl ?_
        exact ih hf
    · refine run_seg (k := 2) (s' := (96, [some (vR 111), some (vI l1), some (vI l2), some (vL l3), none, some (vI l5), some (vI l6), g7, g8, g9], [vI l2, vI l1], σ)) rfl ?_
      refine run_callN (w := fun a => some (vL a)) (m := 276) (as := [vI l1, vI l2]) (pc := 99) (ls := [some (vR 111), some (vI l1), some (vI l2), some (vL l3), none, some (vI l5), some (vI l6), g7, g8, g9]) (st' := []) (σ := σ) hf rfl (fun _ h => (c_M_choose h).mono (by decide)) (fun r11 hf => ?_)
      refine run_seg (k := 3) (s' := (105, [some (vR 111), some (vI l1), some (vI l2), some (vL l3), none, some (vI l5), some (vL r11), none, some (vI 20), g9], [], σ)) rfl ?_
      exact r_M_counted_105 1000000 hf
theorem r_M_counted_24 : ∀ (n : Nat) {l1 : Int} {l2 : Int} {l3 : Int} {g4 : Option xV} {g5 : Option xV} {g6 : Option xV} {g7 : Option xV} {g8 : Option xV} {g9 : Option xV} {σ : xSt} {r : Int × xSt}, f_M_counted_24 n l1 l2 l3 σ = some r → Run 2 12 1 kX12_counted (24, [some (vR 111), some (vI l1), some (vI l2), some (vI l3), g4, g5, g6, g7, g8, g9], [], σ) (tIW r) := by
  intro n
  induction n with
  | zero =>
    intro _ _ _ _ _ _ _ _ _ _ _ h
    exact nomatch (show (none : Option (Int × xSt)) = some _ from h)
  | succ n ih =>
    intro l1 l2 l3 g4 g5 g6 g7 g8 g9 σ r hf
    unfold f_M_counted_24 at hf
    refine run_seg (k := 3) (s' := (if l3 < l1 then (29, [some (vR 111), some (vI l1), some (vI l2), some (vI l3), g4, g5, g6, g7, g8, g9], [], σ) else (44, [some (vR 111), some (vI l1), some (vI l2), some (vI l3), g4, g5, g6, g7, g8, g9], [], σ))) rfl ?_
    refine run_ite hf (fun _ hf => ?_) (fun _ hf => ?_)
    · refine run_seg (k := 4) (s' := (35, [some (vR 111), some (vI l1), some (vI l2), some (vI l3), g4, g5, g6, g7, g8, g9], [vI l3, vR 125, vI l2], σ)) rfl ?_
      refine run_guard (s' := (36, [some (vR 111), some (vI l1), some (vI l2), some (vI l3), g4, g5, g6, g7, g8, g9], [vI (σ 125 l3.toNat), vI l2], σ)) hf rfl (fun hf => ?_)
      refine run_seg (k := 2) (s' := (38, [some (vR 111), some (vI l1), some (vI (w32 (l2 + (σ 125 l3.toNat)))), some (vI l3), g4, g5, g6, g7, g8, g9], [], σ)) rfl ?_
      refine run_let (fun x4 => (38, [some (vR 111), some (vI l1), some (vI x4), some (vI l3), g4, g5, g6, g7, g8, g9], [], σ)) hf (fun x4 hf => ?_)
      refine run_seg (k := 1) (s' := (41, [some (vR 111), some (vI l1), some (vI x4), some (vI (w32 (l3 + 1))), g4, g5, g6, g7, g8, g9], [], σ)) rfl ?_
      refine run_let (fun x5 => (41, [some (vR 111), some (vI l1), some (vI x4), some (vI x5), g4, g5, g6, g7, g8, g9], [], σ)) hf (fun x5 hf => ?_)
      refine run_seg (k := 1) (s' := (24, [some (vR 111), some (vI l1), some (vI x4), some (vI x5), g4, g5, g6, g7, g8, g9], [], σ)) rfl ?_
      exact ih hf
    · refine run_seg (k := 6) (s' := (52, [some (vR 111), some (vI l1), some (vI l2), some (vL 0), none, some (vI l2), some (vI 0), g7, g8, g9], [], σ)) rfl ?_
      exact r_M_counted_52 1000000 hf
theorem c_M_counted {σ : xSt} {r : Int × xSt} (hf : f_M_counted σ = some r) : Call (2 + 1) 298 [vR 111] σ (tIW r).1 (tIW r).2 := by
  unfold f_M_counted at hf
  refine call_of (own := 12) (rk := 1) (cd := kX12_counted) (ls := [some (vR 111), none, none, none, none, none, none, none, none, none]) (rT := tIW) rfl rfl rfl rfl rfl ?_
  refine run_seg (k := 3) (s' := (5, [some (vR 111), none, none, none, none, none, none, none, none, none], [], upS σ 111 0 0)) rfl ?_
  refine run_let (fun σ1 => (5, [some (vR 111), none, none, none, none, none, none, none, none, none], [], σ1)) hf (fun σ1 hf => ?_)
  refine run_seg (k := 3) (s' := (9, [some (vR 111), none, none, none, none, none, none, none, none, none], [vI 16, vI 1, vR 111], σ1)) rfl ?_
  refine run_callW (w := fun a => some (vI a)) (m := 290) (as := [vR 111, vI 1, vI 16]) (pc := 12) (ls := [some (vR 111), none, none, none, none, none, none, none, none, none]) (st' := []) (σ := σ1) hf rfl (fun _ _ h => (c_M_takeRow h).mono (by decide)) (fun r2 σ3 hf => ?_)
  refine run_seg (k := 4) (s' := (if r2 = (-1) then (18, [some (vR 111), some (vI r2), none, none, none, none, none, none, none, none], [], σ3) else (20, [some (vR 111), some (vI r2), none, none, none, none, none, none, none, none], [], σ3))) rfl ?_
  refine run_ite hf (fun _ hf => ?_) (fun _ hf => ?_)
  · refine run_seg (k := 1) (s' := (19, [some (vR 111), some (vI r2), none, none, none, none, none, none, none, none], [vI (-1)], σ3)) rfl ?_
    exact run_ret hf rfl
  · refine run_seg (k := 4) (s' := (24, [some (vR 111), some (vI r2), some (vI 0), some (vI 0), none, none, none, none, none, none], [], σ3)) rfl ?_
    exact r_M_counted_24 1000000 hf
/-- BentPennyModel.bit(I)I -/
def f_M_bit_ (p1 : Int) (σ : xSt) : Option (Int × xSt) :=
  xlet (upS σ 111 0 0) fun σ1 =>
  if σ1 111 45 = 0 then (some ((-1), σ1))
  else (if p1 < 0 then (some ((-1), σ1))
  else (if p1 < σ1 111 43 then (if 0 ≤ p1 ∧ p1 < 1300 then (
  some (σ1 127 p1.toNat, σ1)) else none)
  else (some ((-1), σ1))))
theorem c_M_bit_ {p1 : Int} {σ : xSt} {r : Int × xSt} (hf : f_M_bit_ p1 σ = some r) : Call (0 + 1) 299 [vR 111, vI p1] σ (tIW r).1 (tIW r).2 := by
  unfold f_M_bit_ at hf
  refine call_of (own := 12) (rk := 1) (cd := kX12_bit_) (ls := [some (vR 111), some (vI p1)]) (rT := tIW) rfl rfl rfl rfl rfl ?_
  refine run_seg (k := 3) (s' := (5, [some (vR 111), some (vI p1)], [], upS σ 111 0 0)) rfl ?_
  refine run_let (fun σ1 => (5, [some (vR 111), some (vI p1)], [], σ1)) hf (fun σ1 hf => ?_)
  refine run_seg (k := 3) (s' := (if σ1 111 45 = 0 then (33, [some (vR 111), some (vI p1)], [], σ1) else (12, [some (vR 111), some (vI p1)], [], σ1))) rfl ?_
  refine run_ite hf (fun _ hf => ?_) (fun _ hf => ?_)
  · refine run_seg (k := 1) (s' := (34, [some (vR 111), some (vI p1)], [vI (-1)], σ1)) rfl ?_
    exact run_ret hf rfl
  · refine run_seg (k := 2) (s' := (if p1 < 0 then (33, [some (vR 111), some (vI p1)], [], σ1) else (16, [some (vR 111), some (vI p1)], [], σ1))) rfl ?_
    refine run_ite hf (fun _ hf => ?_) (fun _ hf => ?_)
    · refine run_seg (k := 1) (s' := (34, [some (vR 111), some (vI p1)], [vI (-1)], σ1)) rfl ?_
      exact run_ret hf rfl
    · refine run_seg (k := 4) (s' := (if p1 < σ1 111 43 then (24, [some (vR 111), some (vI p1)], [], σ1) else (33, [some (vR 111), some (vI p1)], [], σ1))) rfl ?_
      refine run_ite hf (fun _ hf => ?_) (fun _ hf => ?_)
      · refine run_seg (k := 3) (s' := (29, [some (vR 111), some (vI p1)], [vI p1, vR 127], σ1)) rfl ?_
        refine run_guard (s' := (30, [some (vR 111), some (vI p1)], [vI (σ1 127 p1.toNat)], σ1)) hf rfl (fun hf => ?_)
        refine run_seg (k := 1) (s' := (34, [some (vR 111), some (vI p1)], [vI (σ1 127 p1.toNat)], σ1)) rfl ?_
        exact run_ret hf rfl
      · refine run_seg (k := 1) (s' := (34, [some (vR 111), some (vI p1)], [vI (-1)], σ1)) rfl ?_
        exact run_ret hf rfl
def f_M_power_5 : Nat → Int → Int → Int → Int → xSt → Option (Int)
  | 0, _, _, _, _, _ => none
  | n + 1, l0, l2, l3, l5, σ =>
    if l5 < l2 then (xlet (w64 (l3 * l0)) fun x1 =>
    xlet (w32 (l5 + 1)) fun x2 =>
    f_M_power_5 n l0 l2 x1 x2 σ)
    else (some l3)
/-- BentPennyModel.power(JI)J -/
def f_M_power (p0 : Int) (p1 : Int) (σ : xSt) : Option (Int) :=
  f_M_power_5 1000000 p0 p1 1 0 σ
theorem r_M_power_5 : ∀ (n : Nat) {l0 : Int} {l2 : Int} {l3 : Int} {l5 : Int} {σ : xSt} {r : Int}, f_M_power_5 n l0 l2 l3 l5 σ = some r → Run 0 12 3 kX12_power (5, [some (vL l0), none, some (vI l2), some (vL l3), none, some (vI l5)], [], σ) ((tL σ) r) := by
  intro n
  induction n with
  | zero =>
    intro _ _ _ _ _ _ h
    exact nomatch (show (none : Option (Int)) = some _ from h)
  | succ n ih =>
    intro l0 l2 l3 l5 σ r hf
    unfold f_M_power_5 at hf
    refine run_seg (k := 3) (s' := (if l5 < l2 then (11, [some (vL l0), none, some (vI l2), some (vL l3), none, some (vI l5)], [], σ) else (21, [some (vL l0), none, some (vI l2), some (vL l3), none, some (vI l5)], [], σ))) rfl ?_
    refine run_ite hf (fun _ hf => ?_) (fun _ hf => ?_)
    · refine run_seg (k := 4) (s' := (15, [some (vL l0), none, some (vI l2), some (vL (w64 (l3 * l0))), none, some (vI l5)], [], σ)) rfl ?_
      refine run_let (fun x1 => (15, [some (vL l0), none, some (vI l2), some (vL x1), none, some (vI l5)], [], σ)) hf (fun x1 hf => ?_)
      refine run_seg (k := 1) (s' := (18, [some (vL l0), none, some (vI l2), some (vL x1), none, some (vI (w32 (l5 + 1)))], [], σ)) rfl ?_
      refine run_let (fun x2 => (18, [some (vL l0), none, some (vI l2), some (vL x1), none, some (vI x2)], [], σ)) hf (fun x2 hf => ?_)
      refine run_seg (k := 1) (s' := (5, [some (vL l0), none, some (vI l2), some (vL x1), none, some (vI x2)], [], σ)) rfl ?_
      exact ih hf
    · refine run_seg (k := 1) (s' := (22, [some (vL l0), none, some (vI l2), some (vL l3), none, some (vI l5)], [vL l3], σ)) rfl ?_
      exact run_ret hf rfl
theorem c_M_power {p0 : Int} {p1 : Int} {σ : xSt} {r : Int} (hf : f_M_power p0 p1 σ = some r) : Call (0 + 1) 300 [vL p0, vI p1] σ ((tL σ) r).1 ((tL σ) r).2 := by
  unfold f_M_power at hf
  refine call_of (own := 12) (rk := 3) (cd := kX12_power) (ls := [some (vL p0), none, some (vI p1), none, none, none]) (rT := (tL σ)) rfl rfl rfl rfl rfl ?_
  refine run_seg (k := 4) (s' := (5, [some (vL p0), none, some (vI p1), some (vL 1), none, some (vI 0)], [], σ)) rfl ?_
  exact r_M_power_5 1000000 hf
def f_M_countedMean_39 (σ : xSt) : Option (Int × xSt) :=
  xbW (f_M_refuseLong σ) fun r6 σ7 =>
  some (r6, σ7)
def f_M_countedMean_75 (k55 : (Int → Int → Int → Int → Int → Int → xSt → Option (Int × xSt))) : Nat → Int → Int → Int → Int → Int → Int → Int → Int → Int → xSt → Option (Int × xSt)
  | 0, _, _, _, _, _, _, _, _, _, _ => none
  | n + 1, l1, l2, l3, l4, l5, l7, l8, l10, l12, σ =>
    if l12 < 20 then (if xlc (xland (xlshr l8 l12) 1) 1 = 0 then (xlet (w64 (l10 + (w64 (l12 * (xlshl 1 l12))))) fun x11 =>
    xlet (w32 (l12 + 1)) fun x12 =>
    f_M_countedMean_75 k55 n l1 l2 l3 l4 l5 l7 l8 x11 x12 σ)
    else (xlet (w32 (l12 + 1)) fun x13 =>
    f_M_countedMean_75 k55 n l1 l2 l3 l4 l5 l7 l8 l10 x13 σ))
    else (xbR (f_M_power l2 l7 σ) fun r14 =>
    xbR (f_M_power (w32 (l3 - l2)) (w32 (l1 - l7)) σ) fun r15 =>
    xlet (w64 (l5 + (w64 ((w64 (l10 * r14)) * r15)))) fun x16 =>
    xlet (w32 (l7 + 1)) fun x17 =>
    k55 l1 l2 l3 l4 x16 x17 σ)
def f_M_countedMean_55 : Nat → Int → Int → Int → Int → Int → Int → xSt → Option (Int × xSt)
  | 0, _, _, _, _, _, _, _ => none
  | n + 1, l1, l2, l3, l4, l5, l7, σ =>
    if l1 < l7 then (xbR (f_M_power l3 l1 σ) fun r8 =>
    xbR (f_M_part l5 r8 l4 σ) fun r9 =>
    some (r9, σ))
    else (xbR (f_M_choose l1 l7 σ) fun r10 =>
    f_M_countedMean_75 (fun z0 z1 z2 z3 z4 z5 sz => f_M_countedMean_55 n z0 z1 z2 z3 z4 z5 sz) 1000000 l1 l2 l3 l4 l5 l7 r10 0 1 σ)
/-- BentPennyModel.countedMean(IIII)J -/
def f_M_countedMean (p1 : Int) (p2 : Int) (p3 : Int) (p4 : Int) (σ : xSt) : Option (Int × xSt) :=
  xbR (f_M_isIn p1 1 16 σ) fun r1 =>
  if r1 = 0 then (f_M_countedMean_39 σ)
  else (xbR (f_M_isIn p3 2 9 σ) fun r2 =>
  if r2 = 0 then (f_M_countedMean_39 σ)
  else (xbR (f_M_isIn p2 0 p3 σ) fun r3 =>
  if r3 = 0 then (f_M_countedMean_39 σ)
  else (xbR (f_M_isIn p4 0 1 σ) fun r4 =>
  if r4 = 0 then (f_M_countedMean_39 σ)
  else (xlet (upS σ 111 0 0) fun σ5 =>
  f_M_countedMean_55 1000000 p1 p2 p3 p4 0 0 σ5))))
theorem r_M_countedMean_39 {g1 : Option xV} {g2 : Option xV} {g3 : Option xV} {g4 : Option xV} {g5 : Option xV} {g6 : Option xV} {g7 : Option xV} {g8 : Option xV} {g9 : Option xV} {g10 : Option xV} {g11 : Option xV} {g12 : Option xV} {σ : xSt} {r : Int × xSt} (hf : f_M_countedMean_39 σ = some r) : Run 2 12 3 kX12_countedMean (39, [some (vR 111), g1, g2, g3, g4, g5, g6, g7, g8, g9, g10, g11, g12], [], σ) (tLW r) := by
  unfold f_M_countedMean_39 at hf
  refine run_seg (k := 1) (s' := (40, [some (vR 111), g1, g2, g3, g4, g5, g6, g7, g8, g9, g10, g11, g12], [vR 111], σ)) rfl ?_
  refine run_callW (w := fun a => some (vL a)) (m := 211) (as := [vR 111]) (pc := 43) (ls := [some (vR 111), g1, g2, g3, g4, g5, g6, g7, g8, g9, g10, g11, g12]) (st' := []) (σ := σ) hf rfl (fun _ _ h => (c_M_refuseLong h).mono (by decide)) (fun r6 σ7 hf => ?_)
  exact run_ret hf rfl
theorem r_M_countedMean_75 {k55 : (Int → Int → Int → Int → Int → Int → xSt → Option (Int × xSt))} (hk55 : ∀ {l1 : Int} {l2 : Int} {l3 : Int} {l4 : Int} {l5 : Int} {l7 : Int} {g0 : Option xV} {g8 : Option xV} {g9 : Option xV} {g10 : Option xV} {g11 : Option xV} {g12 : Option xV} {σ : xSt} {r : Int × xSt}, k55 l1 l2 l3 l4 l5 l7 σ = some r → Run 2 12 3 kX12_countedMean (55, [g0, some (vI l1), some (vI l2), some (vI l3), some (vI l4), some (vL l5), none, some (vI l7), g8, g9, g10, g11, g12], [], σ) (tLW r)) : ∀ (n : Nat) {l1 : Int} {l2 : Int} {l3 : Int} {l4 : Int} {l5 : Int} {l7 : Int} {l8 : Int} {l10 : Int} {l12 : Int} {g0 : Option xV} {σ : xSt} {r : Int × xSt}, f_M_countedMean_75 k55 n l1 l2 l3 l4 l5 l7 l8 l10 l12 σ = some r → Run 2 12 3 kX12_countedMean (75, [g0, some (vI l1), some (vI l2), some (vI l3), some (vI l4), some (vL l5), none, some (vI l7), some (vL l8), none, some (vL l10), none, some (vI l12)], [], σ) (tLW r) := by
  intro n
  induction n with
  | zero =>
    intro _ _ _ _ _ _ _ _ _ _ _ _ h
    exact nomatch (show (none : Option (Int × xSt)) = some _ from h)
  | succ n ih =>
    intro l1 l2 l3 l4 l5 l7 l8 l10 l12 g0 σ r hf
    unfold f_M_countedMean_75 at hf
    refine run_seg (k := 3) (s' := (if l12 < 20 then (82, [g0, some (vI l1), some (vI l2), some (vI l3), some (vI l4), some (vL l5), none, some (vI l7), some (vL l8), none, some (vL l10), none, some (vI l12)], [], σ) else (113, [g0, some (vI l1), some (vI l2), some (vI l3), some (vI l4), some (vL l5), none, some (vI l7), some (vL l8), none, some (vL l10), none, some (vI l12)], [], σ))) rfl ?_
    refine run_ite hf (fun _ hf => ?_) (fun _ hf => ?_)
    · refine run_seg (k := 8) (s' := (if xlc (xland (xlshr l8 l12) 1) 1 = 0 then (94, [g0, some (vI l1), some (vI l2), some (vI l3), some (vI l4), some (vL l5), none, some (vI l7), some (vL l8), none, some (vL l10), none, some (vI l12)], [], σ) else (107, [g0, some (vI l1), some (vI l2), some (vI l3), some (vI l4), some (vL l5), none, some (vI l7), some (vL l8), none, some (vL l10), none, some (vI l12)], [], σ))) rfl ?_
      refine run_ite hf (fun _ hf => ?_) (fun _ hf => ?_)
      · refine run_seg (k := 9) (s' := (107, [g0, some (vI l1), some (vI l2), some (vI l3), some (vI l4), some (vL l5), none, some (vI l7), some (vL l8), none, some (vL (w64 (l10 + (w64 (l12 * (xlshl 1 l12)))))), none, some (vI l12)], [], σ)) rfl ?_
        refine run_let (fun x11 => (107, [g0, some (vI l1), some (vI l2), some (vI l3), some (vI l4), some (vL l5), none, some (vI l7), some (vL l8), none, some (vL x11), none, some (vI l12)], [], σ)) hf (fun x11 hf => ?_)
        refine run_seg (k := 1) (s' := (110, [g0, some (vI l1), some (vI l2), some (vI l3), some (vI l4), some (vL l5), none, some (vI l7), some (vL l8), none, some (vL x11), none, some (vI (w32 (l12 + 1)))], [], σ)) rfl ?_
        refine run_let (fun x12 => (110, [g0, some (vI l1), some (vI l2), some (vI l3), some (vI l4), some (vL l5), none, some (vI l7), some (vL l8), none, some (vL x11), none, some (vI x12)], [], σ)) hf (fun x12 hf => ?_)
        refine run_seg (k := 1) (s' := (75, [g0, some (vI l1), some (vI l2), some (vI l3), some (vI l4), some (vL l5), none, some (vI l7), some (vL l8), none, some (vL x11), none, some (vI x12)], [], σ)) rfl ?_
        exact ih hf
      · refine run_seg (k := 1) (s' := (110, [g0, some (vI l1), some (vI l2), some (vI l3), some (vI l4), some (vL l5), none, some (vI l7), some (vL l8), none, some (vL l10), none, some (vI (w32 (l12 + 1)))], [], σ)) rfl ?_
        refine run_let (fun x13 => (110, [g0, some (vI l1), some (vI l2), some (vI l3), some (vI l4), some (vL l5), none, some (vI l7), some (vL l8), none, some (vL l10), none, some (vI x13)], [], σ)) hf (fun x13 hf => ?_)
        refine run_seg (k := 1) (s' := (75, [g0, some (vI l1), some (vI l2), some (vI l3), some (vI l4), some (vL l5), none, some (vI l7), some (vL l8), none, some (vL l10), none, some (vI x13)], [], σ)) rfl ?_
        exact ih hf
    · refine run_seg (k := 5) (s' := (121, [g0, some (vI l1), some (vI l2), some (vI l3), some (vI l4), some (vL l5), none, some (vI l7), some (vL l8), none, some (vL l10), none, some (vI l12)], [vI l7, vL l2, vL l10, vL l5], σ)) rfl ?_
      refine run_callN (w := fun a => some (vL a)) (m := 300) (as := [vL l2, vI l7]) (pc := 124) (ls := [g0, some (vI l1), some (vI l2), some (vI l3), some (vI l4), some (vL l5), none, some (vI l7), some (vL l8), none, some (vL l10), none, some (vI l12)]) (st' := [vL l10, vL l5]) (σ := σ) hf rfl (fun _ h => (c_M_power h).mono (by decide)) (fun r14 hf => ?_)
      refine run_seg (k := 8) (s' := (133, [g0, some (vI l1), some (vI l2), some (vI l3), some (vI l4), some (vL l5), none, some (vI l7), some (vL l8), none, some (vL l10), none, some (vI l12)], [vI (w32 (l1 - l7)), vL (w32 (l3 - l2)), vL (w64 (l10 * r14)), vL l5], σ)) rfl ?_
      refine run_callN (w := fun a => some (vL a)) (m := 300) (as := [vL (w32 (l3 - l2)), vI (w32 (l1 - l7))]) (pc := 136) (ls := [g0, some (vI l1), some (vI l2), some (vI l3), some (vI l4), some (vL l5), none, some (vI l7), some (vL l8), none, some (vL l10), none, some (vI l12)]) (st' := [vL (w64 (l10 * r14)), vL l5]) (σ := σ) hf rfl (fun _ h => (c_M_power h).mono (by decide)) (fun r15 hf => ?_)
      refine run_seg (k := 3) (s' := (140, [g0, some (vI l1), some (vI l2), some (vI l3), some (vI l4), some (vL (w64 (l5 + (w64 ((w64 (l10 * r14)) * r15))))), none, some (vI l7), some (vL l8), none, some (vL l10), none, some (vI l12)], [], σ)) rfl ?_
      refine run_let (fun x16 => (140, [g0, some (vI l1), some (vI l2), some (vI l3), some (vI l4), some (vL x16), none, some (vI l7), some (vL l8), none, some (vL l10), none, some (vI l12)], [], σ)) hf (fun x16 hf => ?_)
      refine run_seg (k := 1) (s' := (143, [g0, some (vI l1), some (vI l2), some (vI l3), some (vI l4), some (vL x16), none, some (vI (w32 (l7 + 1))), some (vL l8), none, some (vL l10), none, some (vI l12)], [], σ)) rfl ?_
      refine run_let (fun x17 => (143, [g0, some (vI l1), some (vI l2), some (vI l3), some (vI l4), some (vL x16), none, some (vI x17), some (vL l8), none, some (vL l10), none, some (vI l12)], [], σ)) hf (fun x17 hf => ?_)
      refine run_seg (k := 1) (s' := (55, [g0, some (vI l1), some (vI l2), some (vI l3), some (vI l4), some (vL x16), none, some (vI x17), some (vL l8), none, some (vL l10), none, some (vI l12)], [], σ)) rfl ?_
      exact hk55 hf
theorem r_M_countedMean_55 : ∀ (n : Nat) {l1 : Int} {l2 : Int} {l3 : Int} {l4 : Int} {l5 : Int} {l7 : Int} {g0 : Option xV} {g8 : Option xV} {g9 : Option xV} {g10 : Option xV} {g11 : Option xV} {g12 : Option xV} {σ : xSt} {r : Int × xSt}, f_M_countedMean_55 n l1 l2 l3 l4 l5 l7 σ = some r → Run 2 12 3 kX12_countedMean (55, [g0, some (vI l1), some (vI l2), some (vI l3), some (vI l4), some (vL l5), none, some (vI l7), g8, g9, g10, g11, g12], [], σ) (tLW r) := by
  intro n
  induction n with
  | zero =>
    intro _ _ _ _ _ _ _ _ _ _ _ _ _ _ h
    exact nomatch (show (none : Option (Int × xSt)) = some _ from h)
  | succ n ih =>
    intro l1 l2 l3 l4 l5 l7 g0 g8 g9 g10 g11 g12 σ r hf
    unfold f_M_countedMean_55 at hf
    refine run_seg (k := 3) (s' := (if l1 < l7 then (146, [g0, some (vI l1), some (vI l2), some (vI l3), some (vI l4), some (vL l5), none, some (vI l7), g8, g9, g10, g11, g12], [], σ) else (61, [g0, some (vI l1), some (vI l2), some (vI l3), some (vI l4), some (vL l5), none, some (vI l7), g8, g9, g10, g11, g12], [], σ))) rfl ?_
    refine run_ite hf (fun _ hf => ?_) (fun _ hf => ?_)
    · refine run_seg (k := 4) (s' := (151, [g0, some (vI l1), some (vI l2), some (vI l3), some (vI l4), some (vL l5), none, some (vI l7), g8, g9, g10, g11, g12], [vI l1, vL l3, vL l5], σ)) rfl ?_
      refine run_callN (w := fun a => some (vL a)) (m := 300) (as := [vL l3, vI l1]) (pc := 154) (ls := [g0, some (vI l1), some (vI l2), some (vI l3), some (vI l4), some (vL l5), none, some (vI l7), g8, g9, g10, g11, g12]) (st' := [vL l5]) (σ := σ) hf rfl (fun _ h => (c_M_power h).mono (by decide)) (fun r8 hf => ?_)
      refine run_seg (k := 1) (s' := (156, [g0, some (vI l1), some (vI l2), some (vI l3), some (vI l4), some (vL l5), none, some (vI l7), g8, g9, g10, g11, g12], [vI l4, vL r8, vL l5], σ)) rfl ?_
      refine run_callN (w := fun a => some (vL a)) (m := 219) (as := [vL l5, vL r8, vI l4]) (pc := 159) (ls := [g0, some (vI l1), some (vI l2), some (vI l3), some (vI l4), some (vL l5), none, some (vI l7), g8, g9, g10, g11, g12]) (st' := []) (σ := σ) hf rfl (fun _ h => (c_M_part h).mono (by decide)) (fun r9 hf => ?_)
      exact run_ret hf rfl
    · refine run_seg (k := 2) (s' := (64, [g0, some (vI l1), some (vI l2), some (vI l3), some (vI l4), some (vL l5), none, some (vI l7), g8, g9, g10, g11, g12], [vI l7, vI l1], σ)) rfl ?_
      refine run_callN (w := fun a => some (vL a)) (m := 276) (as := [vI l1, vI l7]) (pc := 67) (ls := [g0, some (vI l1), some (vI l2), some (vI l3), some (vI l4), some (vL l5), none, some (vI l7), g8, g9, g10, g11, g12]) (st' := []) (σ := σ) hf rfl (fun _ h => (c_M_choose h).mono (by decide)) (fun r10 hf => ?_)
      refine run_seg (k := 5) (s' := (75, [g0, some (vI l1), some (vI l2), some (vI l3), some (vI l4), some (vL l5), none, some (vI l7), some (vL r10), none, some (vL 0), none, some (vI 1)], [], σ)) rfl ?_
      exact r_M_countedMean_75 (fun h => ih h) 1000000 hf
theorem c_M_countedMean {p1 : Int} {p2 : Int} {p3 : Int} {p4 : Int} {σ : xSt} {r : Int × xSt} (hf : f_M_countedMean p1 p2 p3 p4 σ = some r) : Call (2 + 1) 301 [vR 111, vI p1, vI p2, vI p3, vI p4] σ (tLW r).1 (tLW r).2 := by
  unfold f_M_countedMean at hf
  refine call_of (own := 12) (rk := 3) (cd := kX12_countedMean) (ls := [some (vR 111), some (vI p1), some (vI p2), some (vI p3), some (vI p4), none, none, none, none, none, none, none, none]) (rT := tLW) rfl rfl rfl rfl rfl ?_
  refine run_seg (k := 3) (s' := (4, [some (vR 111), some (vI p1), some (vI p2), some (vI p3), some (vI p4), none, none, none, none, none, none, none, none], [vI 16, vI 1, vI p1], σ)) rfl ?_
  refine run_callN (w := fun a => some (vI a)) (m := 216) (as := [vI p1, vI 1, vI 16]) (pc := 7) (ls := [some (vR 111), some (vI p1), some (vI p2), some (vI p3), some (vI p4), none, none, none, none, none, none, none, none]) (st' := []) (σ := σ) hf rfl (fun _ h => (c_M_isIn h).mono (by decide)) (fun r1 hf => ?_)
  refine run_seg (k := 1) (s' := (if r1 = 0 then (39, [some (vR 111), some (vI p1), some (vI p2), some (vI p3), some (vI p4), none, none, none, none, none, none, none, none], [], σ) else (10, [some (vR 111), some (vI p1), some (vI p2), some (vI p3), some (vI p4), none, none, none, none, none, none, none, none], [], σ))) rfl ?_
  refine run_ite hf (fun _ hf => ?_) (fun _ hf => ?_)
  · exact r_M_countedMean_39 hf
  · refine run_seg (k := 3) (s' := (14, [some (vR 111), some (vI p1), some (vI p2), some (vI p3), some (vI p4), none, none, none, none, none, none, none, none], [vI 9, vI 2, vI p3], σ)) rfl ?_
    refine run_callN (w := fun a => some (vI a)) (m := 216) (as := [vI p3, vI 2, vI 9]) (pc := 17) (ls := [some (vR 111), some (vI p1), some (vI p2), some (vI p3), some (vI p4), none, none, none, none, none, none, none, none]) (st' := []) (σ := σ) hf rfl (fun _ h => (c_M_isIn h).mono (by decide)) (fun r2 hf => ?_)
    refine run_seg (k := 1) (s' := (if r2 = 0 then (39, [some (vR 111), some (vI p1), some (vI p2), some (vI p3), some (vI p4), none, none, none, none, none, none, none, none], [], σ) else (20, [some (vR 111), some (vI p1), some (vI p2), some (vI p3), some (vI p4), none, none, none, none, none, none, none, none], [], σ))) rfl ?_
    refine run_ite hf (fun _ hf => ?_) (fun _ hf => ?_)
    · exact r_M_countedMean_39 hf
    · refine run_seg (k := 3) (s' := (23, [some (vR 111), some (vI p1), some (vI p2), some (vI p3), some (vI p4), none, none, none, none, none, none, none, none], [vI p3, vI 0, vI p2], σ)) rfl ?_
      refine run_callN (w := fun a => some (vI a)) (m := 216) (as := [vI p2, vI 0, vI p3]) (pc := 26) (ls := [some (vR 111), some (vI p1), some (vI p2), some (vI p3), some (vI p4), none, none, none, none, none, none, none, none]) (st' := []) (σ := σ) hf rfl (fun _ h => (c_M_isIn h).mono (by decide)) (fun r3 hf => ?_)
      refine run_seg (k := 1) (s' := (if r3 = 0 then (39, [some (vR 111), some (vI p1), some (vI p2), some (vI p3), some (vI p4), none, none, none, none, none, none, none, none], [], σ) else (29, [some (vR 111), some (vI p1), some (vI p2), some (vI p3), some (vI p4), none, none, none, none, none, none, none, none], [], σ))) rfl ?_
      refine run_ite hf (fun _ hf => ?_) (fun _ hf => ?_)
      · exact r_M_countedMean_39 hf
      · refine run_seg (k := 3) (s' := (33, [some (vR 111), some (vI p1), some (vI p2), some (vI p3), some (vI p4), none, none, none, none, none, none, none, none], [vI 1, vI 0, vI p4], σ)) rfl ?_
        refine run_callN (w := fun a => some (vI a)) (m := 216) (as := [vI p4, vI 0, vI 1]) (pc := 36) (ls := [some (vR 111), some (vI p1), some (vI p2), some (vI p3), some (vI p4), none, none, none, none, none, none, none, none]) (st' := []) (σ := σ) hf rfl (fun _ h => (c_M_isIn h).mono (by decide)) (fun r4 hf => ?_)
        refine run_seg (k := 1) (s' := (if r4 = 0 then (39, [some (vR 111), some (vI p1), some (vI p2), some (vI p3), some (vI p4), none, none, none, none, none, none, none, none], [], σ) else (44, [some (vR 111), some (vI p1), some (vI p2), some (vI p3), some (vI p4), none, none, none, none, none, none, none, none], [], σ))) rfl ?_
        refine run_ite hf (fun _ hf => ?_) (fun _ hf => ?_)
        · exact r_M_countedMean_39 hf
        · refine run_seg (k := 3) (s' := (49, [some (vR 111), some (vI p1), some (vI p2), some (vI p3), some (vI p4), none, none, none, none, none, none, none, none], [], upS σ 111 0 0)) rfl ?_
          refine run_let (fun σ5 => (49, [some (vR 111), some (vI p1), some (vI p2), some (vI p3), some (vI p4), none, none, none, none, none, none, none, none], [], σ5)) hf (fun σ5 hf => ?_)
          refine run_seg (k := 4) (s' := (55, [some (vR 111), some (vI p1), some (vI p2), some (vI p3), some (vI p4), some (vL 0), none, some (vI 0), none, none, none, none, none], [], σ5)) rfl ?_
          exact r_M_countedMean_55 1000000 hf
/-- BentPennyModel.shareOf(I)I -/
def f_M_shareOf (p1 : Int) (σ : xSt) : Option (Int) :=
  if 0 ≤ w32 (28 + (w32 (2 * p1))) ∧ w32 (28 + (w32 (2 * p1))) < 924 then (
  some (σ 113 (w32 (28 + (w32 (2 * p1)))).toNat)) else none
theorem c_M_shareOf {p1 : Int} {σ : xSt} {r : Int} (hf : f_M_shareOf p1 σ = some r) : Call (0 + 1) 302 [vR 111, vI p1] σ ((tI σ) r).1 ((tI σ) r).2 := by
  unfold f_M_shareOf at hf
  refine call_of (own := 12) (rk := 1) (cd := kX12_shareOf) (ls := [some (vR 111), some (vI p1)]) (rT := (tI σ)) rfl rfl rfl rfl rfl ?_
  refine run_seg (k := 7) (s' := (10, [some (vR 111), some (vI p1)], [vI (w32 (28 + (w32 (2 * p1)))), vR 113], σ)) rfl ?_
  refine run_guard (s' := (11, [some (vR 111), some (vI p1)], [vI (σ 113 (w32 (28 + (w32 (2 * p1)))).toNat)], σ)) hf rfl (fun hf => ?_)
  exact run_ret hf rfl
/-- BentPennyModel.shareBelow()I -/
def f_M_shareBelow (σ : xSt) : Option (Int) :=
  some (σ 113 29)
theorem c_M_shareBelow {σ : xSt} {r : Int} (hf : f_M_shareBelow σ = some r) : Call (0 + 1) 303 [vR 111] σ ((tI σ) r).1 ((tI σ) r).2 := by
  unfold f_M_shareBelow at hf
  refine call_of (own := 12) (rk := 1) (cd := kX12_shareBelow) (ls := [some (vR 111)]) (rT := (tI σ)) rfl rfl rfl rfl rfl ?_
  refine run_seg (k := 4) (s' := (7, [some (vR 111)], [vI (σ 113 29)], σ)) rfl ?_
  exact run_ret hf rfl
def f_M_hasShares_20 : Nat → Int → Int → xSt → Option (Int)
  | 0, _, _, _ => none
  | n + 1, l1, l2, σ =>
    xbR (f_M_ends σ) fun r3 =>
    if l2 < r3 then (if 0 ≤ w32 ((w32 (28 + (w32 (2 * l2)))) + 1) ∧ w32 ((w32 (28 + (w32 (2 * l2)))) + 1) < 924 then (
    xbR (f_M_shareBelow σ) fun r4 =>
    if σ 113 (w32 ((w32 (28 + (w32 (2 * l2)))) + 1)).toNat = r4 then (xbR (f_M_shareOf l2 σ) fun r5 =>
    xlet (w32 (l1 + r5)) fun x6 =>
    xlet (w32 (l2 + 1)) fun x7 =>
    f_M_hasShares_20 n x6 x7 σ)
    else (some 0)) else none)
    else (xbR (f_M_shareBelow σ) fun r8 =>
    if l1 = r8 then (some 1)
    else (some 0))
/-- BentPennyModel.hasShares()Z -/
def f_M_hasShares (σ : xSt) : Option (Int) :=
  xbR (f_M_ends σ) fun r1 =>
  if r1 = 0 then (some 0)
  else (xbR (f_M_shareBelow σ) fun r2 =>
  if r2 = 0 then (some 0)
  else (f_M_hasShares_20 1000000 0 0 σ))
theorem r_M_hasShares_20 : ∀ (n : Nat) {l1 : Int} {l2 : Int} {σ : xSt} {r : Int}, f_M_hasShares_20 n l1 l2 σ = some r → Run 1 12 2 kX12_hasShares (20, [some (vR 111), some (vI l1), some (vI l2)], [], σ) ((tI σ) r) := by
  intro n
  induction n with
  | zero =>
    intro _ _ _ _ h
    exact nomatch (show (none : Option (Int)) = some _ from h)
  | succ n ih =>
    intro l1 l2 σ r hf
    unfold f_M_hasShares_20 at hf
    refine run_seg (k := 2) (s' := (22, [some (vR 111), some (vI l1), some (vI l2)], [vR 111, vI l2], σ)) rfl ?_
    refine run_callN (w := fun a => some (vI a)) (m := 246) (as := [vR 111]) (pc := 25) (ls := [some (vR 111), some (vI l1), some (vI l2)]) (st' := [vI l2]) (σ := σ) hf rfl (fun _ h => (c_M_ends h).mono (by decide)) (fun r3 hf => ?_)
    refine run_seg (k := 1) (s' := (if l2 < r3 then (28, [some (vR 111), some (vI l1), some (vI l2)], [], σ) else (64, [some (vR 111), some (vI l1), some (vI l2)], [], σ))) rfl ?_
    refine run_ite hf (fun _ hf => ?_) (fun _ hf => ?_)
    · refine run_seg (k := 9) (s' := (40, [some (vR 111), some (vI l1), some (vI l2)], [vI (w32 ((w32 (28 + (w32 (2 * l2)))) + 1)), vR 113], σ)) rfl ?_
      refine run_guard (s' := (41, [some (vR 111), some (vI l1), some (vI l2)], [vI (σ 113 (w32 ((w32 (28 + (w32 (2 * l2)))) + 1)).toNat)], σ)) hf rfl (fun hf => ?_)
      refine run_seg (k := 1) (s' := (42, [some (vR 111), some (vI l1), some (vI l2)], [vR 111, vI (σ 113 (w32 ((w32 (28 + (w32 (2 * l2)))) + 1)).toNat)], σ)) rfl ?_
      refine run_callN (w := fun a => some (vI a)) (m := 303) (as := [vR 111]) (pc := 45) (ls := [some (vR 111), some (vI l1), some (vI l2)]) (st' := [vI (σ 113 (w32 ((w32 (28 + (w32 (2 * l2)))) + 1)).toNat)]) (σ := σ) hf rfl (fun _ h => (c_M_shareBelow h).mono (by decide)) (fun r4 hf => ?_)
      refine run_seg (k := 1) (s' := (if σ 113 (w32 ((w32 (28 + (w32 (2 * l2)))) + 1)).toNat = r4 then (50, [some (vR 111), some (vI l1), some (vI l2)], [], σ) else (48, [some (vR 111), some (vI l1), some (vI l2)], [], σ))) rfl ?_
      refine run_ite hf (fun _ hf => ?_) (fun _ hf => ?_)
      · refine run_seg (k := 3) (s' := (53, [some (vR 111), some (vI l1), some (vI l2)], [vI l2, vR 111, vI l1], σ)) rfl ?_
        refine run_callN (w := fun a => some (vI a)) (m := 302) (as := [vR 111, vI l2]) (pc := 56) (ls := [some (vR 111), some (vI l1), some (vI l2)]) (st' := [vI l1]) (σ := σ) hf rfl (fun _ h => (c_M_shareOf h).mono (by decide)) (fun r5 hf => ?_)
        refine run_seg (k := 2) (s' := (58, [some (vR 111), some (vI (w32 (l1 + r5))), some (vI l2)], [], σ)) rfl ?_
        refine run_let (fun x6 => (58, [some (vR 111), some (vI x6), some (vI l2)], [], σ)) hf (fun x6 hf => ?_)
        refine run_seg (k := 1) (s' := (61, [some (vR 111), some (vI x6), some (vI (w32 (l2 + 1)))], [], σ)) rfl ?_
        refine run_let (fun x7 => (61, [some (vR 111), some (vI x6), some (vI x7)], [], σ)) hf (fun x7 hf => ?_)
        refine run_seg (k := 1) (s' := (20, [some (vR 111), some (vI x6), some (vI x7)], [], σ)) rfl ?_
        exact ih hf
      · refine run_seg (k := 1) (s' := (49, [some (vR 111), some (vI l1), some (vI l2)], [vI 0], σ)) rfl ?_
        exact run_ret hf rfl
    · refine run_seg (k := 2) (s' := (66, [some (vR 111), some (vI l1), some (vI l2)], [vR 111, vI l1], σ)) rfl ?_
      refine run_callN (w := fun a => some (vI a)) (m := 303) (as := [vR 111]) (pc := 69) (ls := [some (vR 111), some (vI l1), some (vI l2)]) (st' := [vI l1]) (σ := σ) hf rfl (fun _ h => (c_M_shareBelow h).mono (by decide)) (fun r8 hf => ?_)
      refine run_seg (k := 1) (s' := (if l1 = r8 then (72, [some (vR 111), some (vI l1), some (vI l2)], [], σ) else (76, [some (vR 111), some (vI l1), some (vI l2)], [], σ))) rfl ?_
      refine run_ite hf (fun _ hf => ?_) (fun _ hf => ?_)
      · refine run_seg (k := 2) (s' := (77, [some (vR 111), some (vI l1), some (vI l2)], [vI 1], σ)) rfl ?_
        exact run_ret hf rfl
      · refine run_seg (k := 1) (s' := (77, [some (vR 111), some (vI l1), some (vI l2)], [vI 0], σ)) rfl ?_
        exact run_ret hf rfl
theorem c_M_hasShares {σ : xSt} {r : Int} (hf : f_M_hasShares σ = some r) : Call (1 + 1) 304 [vR 111] σ ((tI σ) r).1 ((tI σ) r).2 := by
  unfold f_M_hasShares at hf
  refine call_of (own := 12) (rk := 2) (cd := kX12_hasShares) (ls := [some (vR 111), none, none]) (rT := (tI σ)) rfl rfl rfl rfl rfl ?_
  refine run_seg (k := 1) (s' := (1, [some (vR 111), none, none], [vR 111], σ)) rfl ?_
  refine run_callN (w := fun a => some (vI a)) (m := 246) (as := [vR 111]) (pc := 4) (ls := [some (vR 111), none, none]) (st' := []) (σ := σ) hf rfl (fun _ h => (c_M_ends h).mono (by decide)) (fun r1 hf => ?_)
  refine run_seg (k := 1) (s' := (if r1 = 0 then (14, [some (vR 111), none, none], [], σ) else (7, [some (vR 111), none, none], [], σ))) rfl ?_
  refine run_ite hf (fun _ hf => ?_) (fun _ hf => ?_)
  · refine run_seg (k := 1) (s' := (15, [some (vR 111), none, none], [vI 0], σ)) rfl ?_
    exact run_ret hf rfl
  · refine run_seg (k := 1) (s' := (8, [some (vR 111), none, none], [vR 111], σ)) rfl ?_
    refine run_callN (w := fun a => some (vI a)) (m := 303) (as := [vR 111]) (pc := 11) (ls := [some (vR 111), none, none]) (st' := []) (σ := σ) hf rfl (fun _ h => (c_M_shareBelow h).mono (by decide)) (fun r2 hf => ?_)
    refine run_seg (k := 1) (s' := (if r2 = 0 then (14, [some (vR 111), none, none], [], σ) else (16, [some (vR 111), none, none], [], σ))) rfl ?_
    refine run_ite hf (fun _ hf => ?_) (fun _ hf => ?_)
    · refine run_seg (k := 1) (s' := (15, [some (vR 111), none, none], [vI 0], σ)) rfl ?_
      exact run_ret hf rfl
    · refine run_seg (k := 4) (s' := (20, [some (vR 111), some (vI 0), some (vI 0)], [], σ)) rfl ?_
      exact r_M_hasShares_20 1000000 hf
def f_M_all_2 : Nat → Int → xSt → Option (Int)
  | 0, _, _ => none
  | n + 1, l1, σ =>
    xbR (f_M_ends σ) fun r1 =>
    if l1 < r1 then (xbR (f_M_shareOf l1 σ) fun r2 =>
    xbR (f_M_shareBelow σ) fun r3 =>
    if r2 = r3 then (some l1)
    else (xlet (w32 (l1 + 1)) fun x4 =>
    f_M_all_2 n x4 σ))
    else (some (-1))
/-- BentPennyModel.all()I -/
def f_M_all (σ : xSt) : Option (Int) :=
  f_M_all_2 1000000 0 σ
theorem r_M_all_2 : ∀ (n : Nat) {l1 : Int} {σ : xSt} {r : Int}, f_M_all_2 n l1 σ = some r → Run 1 12 1 kX12_all (2, [some (vR 111), some (vI l1)], [], σ) ((tI σ) r) := by
  intro n
  induction n with
  | zero =>
    intro _ _ _ h
    exact nomatch (show (none : Option (Int)) = some _ from h)
  | succ n ih =>
    intro l1 σ r hf
    unfold f_M_all_2 at hf
    refine run_seg (k := 2) (s' := (4, [some (vR 111), some (vI l1)], [vR 111, vI l1], σ)) rfl ?_
    refine run_callN (w := fun a => some (vI a)) (m := 246) (as := [vR 111]) (pc := 7) (ls := [some (vR 111), some (vI l1)]) (st' := [vI l1]) (σ := σ) hf rfl (fun _ h => (c_M_ends h).mono (by decide)) (fun r1 hf => ?_)
    refine run_seg (k := 1) (s' := (if l1 < r1 then (10, [some (vR 111), some (vI l1)], [], σ) else (30, [some (vR 111), some (vI l1)], [], σ))) rfl ?_
    refine run_ite hf (fun _ hf => ?_) (fun _ hf => ?_)
    · refine run_seg (k := 2) (s' := (12, [some (vR 111), some (vI l1)], [vI l1, vR 111], σ)) rfl ?_
      refine run_callN (w := fun a => some (vI a)) (m := 302) (as := [vR 111, vI l1]) (pc := 15) (ls := [some (vR 111), some (vI l1)]) (st' := []) (σ := σ) hf rfl (fun _ h => (c_M_shareOf h).mono (by decide)) (fun r2 hf => ?_)
      refine run_seg (k := 1) (s' := (16, [some (vR 111), some (vI l1)], [vR 111, vI r2], σ)) rfl ?_
      refine run_callN (w := fun a => some (vI a)) (m := 303) (as := [vR 111]) (pc := 19) (ls := [some (vR 111), some (vI l1)]) (st' := [vI r2]) (σ := σ) hf rfl (fun _ h => (c_M_shareBelow h).mono (by decide)) (fun r3 hf => ?_)
      refine run_seg (k := 1) (s' := (if r2 = r3 then (22, [some (vR 111), some (vI l1)], [], σ) else (24, [some (vR 111), some (vI l1)], [], σ))) rfl ?_
      refine run_ite hf (fun _ hf => ?_) (fun _ hf => ?_)
      · refine run_seg (k := 1) (s' := (23, [some (vR 111), some (vI l1)], [vI l1], σ)) rfl ?_
        exact run_ret hf rfl
      · refine run_seg (k := 1) (s' := (27, [some (vR 111), some (vI (w32 (l1 + 1)))], [], σ)) rfl ?_
        refine run_let (fun x4 => (27, [some (vR 111), some (vI x4)], [], σ)) hf (fun x4 hf => ?_)
        refine run_seg (k := 1) (s' := (2, [some (vR 111), some (vI x4)], [], σ)) rfl ?_
        exact ih hf
    · refine run_seg (k := 1) (s' := (31, [some (vR 111), some (vI l1)], [vI (-1)], σ)) rfl ?_
      exact run_ret hf rfl
theorem c_M_all {σ : xSt} {r : Int} (hf : f_M_all σ = some r) : Call (1 + 1) 305 [vR 111] σ ((tI σ) r).1 ((tI σ) r).2 := by
  unfold f_M_all at hf
  refine call_of (own := 12) (rk := 1) (cd := kX12_all) (ls := [some (vR 111), none]) (rT := (tI σ)) rfl rfl rfl rfl rfl ?_
  refine run_seg (k := 2) (s' := (2, [some (vR 111), some (vI 0)], [], σ)) rfl ?_
  exact r_M_all_2 1000000 hf
/-- BentPennyModel.digit(I)I -/
def f_M_digit (p1 : Int) (σ : xSt) : Option (Int × xSt) :=
  if 0 ≤ p1 ∧ p1 < 6 then (
  if 0 ≤ p1 ∧ p1 < 6 then (
  xlet (upS σ 128 p1.toNat (w32 ((σ 128 p1.toNat) * 2))) fun σ1 =>
  if 0 ≤ p1 ∧ p1 < 6 then (
  xbR (f_M_shareBelow σ1) fun r2 =>
  if σ1 128 p1.toNat < r2 then (some (0, σ1))
  else (if 0 ≤ p1 ∧ p1 < 6 then (
  xbR (f_M_shareBelow σ1) fun r3 =>
  if 0 ≤ p1 ∧ p1 < 6 then (
  xlet (upS σ1 128 p1.toNat (w32 ((σ1 128 p1.toNat) - r3))) fun σ4 =>
  some (1, σ4)) else none) else none)) else none) else none) else none
theorem c_M_digit {p1 : Int} {σ : xSt} {r : Int × xSt} (hf : f_M_digit p1 σ = some r) : Call (1 + 1) 306 [vR 111, vI p1] σ (tIW r).1 (tIW r).2 := by
  unfold f_M_digit at hf
  refine call_of (own := 12) (rk := 1) (cd := kX12_digit) (ls := [some (vR 111), some (vI p1)]) (rT := tIW) rfl rfl rfl rfl rfl ?_
  refine run_seg (k := 4) (s' := (6, [some (vR 111), some (vI p1)], [vI p1, vR 128, vI p1, vR 128], σ)) rfl ?_
  refine run_guard (s' := (7, [some (vR 111), some (vI p1)], [vI (σ 128 p1.toNat), vI p1, vR 128], σ)) hf rfl (fun hf => ?_)
  refine run_seg (k := 2) (s' := (9, [some (vR 111), some (vI p1)], [vI (w32 ((σ 128 p1.toNat) * 2)), vI p1, vR 128], σ)) rfl ?_
  refine run_guard (s' := (10, [some (vR 111), some (vI p1)], [], upS σ 128 p1.toNat (w32 ((σ 128 p1.toNat) * 2)))) hf rfl (fun hf => ?_)
  refine run_let (fun σ1 => (10, [some (vR 111), some (vI p1)], [], σ1)) hf (fun σ1 hf => ?_)
  refine run_seg (k := 3) (s' := (15, [some (vR 111), some (vI p1)], [vI p1, vR 128], σ1)) rfl ?_
  refine run_guard (s' := (16, [some (vR 111), some (vI p1)], [vI (σ1 128 p1.toNat)], σ1)) hf rfl (fun hf => ?_)
  refine run_seg (k := 1) (s' := (17, [some (vR 111), some (vI p1)], [vR 111, vI (σ1 128 p1.toNat)], σ1)) rfl ?_
  refine run_callN (w := fun a => some (vI a)) (m := 303) (as := [vR 111]) (pc := 20) (ls := [some (vR 111), some (vI p1)]) (st' := [vI (σ1 128 p1.toNat)]) (σ := σ1) hf rfl (fun _ h => (c_M_shareBelow h).mono (by decide)) (fun r2 hf => ?_)
  refine run_seg (k := 1) (s' := (if σ1 128 p1.toNat < r2 then (23, [some (vR 111), some (vI p1)], [], σ1) else (25, [some (vR 111), some (vI p1)], [], σ1))) rfl ?_
  refine run_ite hf (fun _ hf => ?_) (fun _ hf => ?_)
  · refine run_seg (k := 1) (s' := (24, [some (vR 111), some (vI p1)], [vI 0], σ1)) rfl ?_
    exact run_ret hf rfl
  · refine run_seg (k := 4) (s' := (31, [some (vR 111), some (vI p1)], [vI p1, vR 128, vI p1, vR 128], σ1)) rfl ?_
    refine run_guard (s' := (32, [some (vR 111), some (vI p1)], [vI (σ1 128 p1.toNat), vI p1, vR 128], σ1)) hf rfl (fun hf => ?_)
    refine run_seg (k := 1) (s' := (33, [some (vR 111), some (vI p1)], [vR 111, vI (σ1 128 p1.toNat), vI p1, vR 128], σ1)) rfl ?_
    refine run_callN (w := fun a => some (vI a)) (m := 303) (as := [vR 111]) (pc := 36) (ls := [some (vR 111), some (vI p1)]) (st' := [vI (σ1 128 p1.toNat), vI p1, vR 128]) (σ := σ1) hf rfl (fun _ h => (c_M_shareBelow h).mono (by decide)) (fun r3 hf => ?_)
    refine run_seg (k := 1) (s' := (37, [some (vR 111), some (vI p1)], [vI (w32 ((σ1 128 p1.toNat) - r3)), vI p1, vR 128], σ1)) rfl ?_
    refine run_guard (s' := (38, [some (vR 111), some (vI p1)], [], upS σ1 128 p1.toNat (w32 ((σ1 128 p1.toNat) - r3)))) hf rfl (fun hf => ?_)
    refine run_let (fun σ4 => (38, [some (vR 111), some (vI p1)], [], σ4)) hf (fun σ4 hf => ?_)
    refine run_seg (k := 1) (s' := (39, [some (vR 111), some (vI p1)], [vI 1], σ4)) rfl ?_
    exact run_ret hf rfl
def f_M_shared_106 (k82 : (Int → Int → Int → xSt → Option (Int × xSt))) : Nat → Int → Int → Int → Int → Int → xSt → Option (Int × xSt)
  | 0, _, _, _, _, _, _ => none
  | n + 1, l1, l3, l4, l5, l6, σ =>
    xbR (f_M_ends σ) fun r13 =>
    if l6 < r13 then (xbW (f_M_digit l6 σ) fun r14 σ15 =>
    if r14 = 0 then (xlet (w32 (l6 + 1)) fun x16 =>
    f_M_shared_106 k82 n l1 l3 l4 l5 x16 σ15)
    else (if l5 = (-1) then (xlet (w32 (l3 + (-1))) fun x17 =>
    if x17 < 0 then (xlet (w32 (l6 + 1)) fun x18 =>
    f_M_shared_106 k82 n l1 x17 l4 l6 x18 σ15)
    else (xlet (w32 (l6 + 1)) fun x19 =>
    f_M_shared_106 k82 n l1 x17 l4 l5 x19 σ15))
    else (xlet (w32 (l6 + 1)) fun x20 =>
    f_M_shared_106 k82 n l1 l3 l4 l5 x20 σ15)))
    else (if l5 = (-1) then (xlet (w32 (l4 + 1)) fun x21 =>
    k82 l1 l3 x21 σ)
    else (xlet (upS σ 111 48 (w32 (l4 + 1))) fun σ22 =>
    some (l5, σ22)))
def f_M_shared_82 : Nat → Int → Int → Int → xSt → Option (Int × xSt)
  | 0, _, _, _, _ => none
  | n + 1, l1, l3, l4, σ =>
    if l4 < l1 then (if 0 ≤ l4 ∧ l4 < 2600 then (
    xlet (w32 ((w32 (2 * l3)) + (σ 125 l4.toNat))) fun x12 =>
    f_M_shared_106 (fun z0 z1 z2 sz => f_M_shared_82 n z0 z1 z2 sz) 1000000 l1 x12 l4 (-1) 0 σ) else none)
    else (some ((-1), σ))
def f_M_shared_52 : Nat → Int → Int → xSt → Option (Int × xSt)
  | 0, _, _, _ => none
  | n + 1, l1, l3, σ =>
    xbR (f_M_ends σ) fun r8 =>
    if l3 < r8 then (xbR (f_M_shareOf l3 σ) fun r9 =>
    if 0 ≤ l3 ∧ l3 < 6 then (
    xlet (upS σ 128 l3.toNat r9) fun σ10 =>
    xlet (w32 (l3 + 1)) fun x11 =>
    f_M_shared_52 n l1 x11 σ10) else none)
    else (f_M_shared_82 1000000 l1 0 0 σ)
/-- BentPennyModel.shared()I -/
def f_M_shared (σ : xSt) : Option (Int × xSt) :=
  xlet (upS σ 111 0 0) fun σ1 =>
  xbR (f_M_lay σ1) fun σ2 =>
  xbW (f_M_takeRow 0 600 σ2) fun r3 σ4 =>
  if r3 = (-1) then (some ((-2), σ4))
  else (xbR (f_M_hasShares σ4) fun r5 =>
  if r5 = 0 then (some ((-2), σ4))
  else (xbR (f_M_all σ4) fun r6 =>
  if r6 = (-1) then (f_M_shared_52 1000000 r3 0 σ4)
  else (xlet (upS σ4 111 48 0) fun σ7 =>
  some (r6, σ7))))
theorem r_M_shared_106 {k82 : (Int → Int → Int → xSt → Option (Int × xSt))} (hk82 : ∀ {l1 : Int} {l3 : Int} {l4 : Int} {g2 : Option xV} {g5 : Option xV} {g6 : Option xV} {σ : xSt} {r : Int × xSt}, k82 l1 l3 l4 σ = some r → Run 2 12 1 kX12_shared (82, [some (vR 111), some (vI l1), g2, some (vI l3), some (vI l4), g5, g6], [], σ) (tIW r)) : ∀ (n : Nat) {l1 : Int} {l3 : Int} {l4 : Int} {l5 : Int} {l6 : Int} {g2 : Option xV} {σ : xSt} {r : Int × xSt}, f_M_shared_106 k82 n l1 l3 l4 l5 l6 σ = some r → Run 2 12 1 kX12_shared (106, [some (vR 111), some (vI l1), g2, some (vI l3), some (vI l4), some (vI l5), some (vI l6)], [], σ) (tIW r) := by
  intro n
  induction n with
  | zero =>
    intro _ _ _ _ _ _ _ _ h
    exact nomatch (show (none : Option (Int × xSt)) = some _ from h)
  | succ n ih =>
    intro l1 l3 l4 l5 l6 g2 σ r hf
    unfold f_M_shared_106 at hf
    refine run_seg (k := 2) (s' := (109, [some (vR 111), some (vI l1), g2, some (vI l3), some (vI l4), some (vI l5), some (vI l6)], [vR 111, vI l6], σ)) rfl ?_
    refine run_callN (w := fun a => some (vI a)) (m := 246) (as := [vR 111]) (pc := 112) (ls := [some (vR 111), some (vI l1), g2, some (vI l3), some (vI l4), some (vI l5), some (vI l6)]) (st' := [vI l6]) (σ := σ) hf rfl (fun _ h => (c_M_ends h).mono (by decide)) (fun r13 hf => ?_)
    refine run_seg (k := 1) (s' := (if l6 < r13 then (115, [some (vR 111), some (vI l1), g2, some (vI l3), some (vI l4), some (vI l5), some (vI l6)], [], σ) else (150, [some (vR 111), some (vI l1), g2, some (vI l3), some (vI l4), some (vI l5), some (vI l6)], [], σ))) rfl ?_
    refine run_ite hf (fun _ hf => ?_) (fun _ hf => ?_)
    · refine run_seg (k := 2) (s' := (118, [some (vR 111), some (vI l1), g2, some (vI l3), some (vI l4), some (vI l5), some (vI l6)], [vI l6, vR 111], σ)) rfl ?_
      refine run_callW (w := fun a => some (vI a)) (m := 306) (as := [vR 111, vI l6]) (pc := 121) (ls := [some (vR 111), some (vI l1), g2, some (vI l3), some (vI l4), some (vI l5), some (vI l6)]) (st' := []) (σ := σ) hf rfl (fun _ _ h => (c_M_digit h).mono (by decide)) (fun r14 σ15 hf => ?_)
      refine run_seg (k := 1) (s' := (if r14 = 0 then (144, [some (vR 111), some (vI l1), g2, some (vI l3), some (vI l4), some (vI l5), some (vI l6)], [], σ15) else (124, [some (vR 111), some (vI l1), g2, some (vI l3), some (vI l4), some (vI l5), some (vI l6)], [], σ15))) rfl ?_
      refine run_ite hf (fun _ hf => ?_) (fun _ hf => ?_)
      · refine run_seg (k := 1) (s' := (147, [some (vR 111), some (vI l1), g2, some (vI l3), some (vI l4), some (vI l5), some (vI (w32 (l6 + 1)))], [], σ15)) rfl ?_
        refine run_let (fun x16 => (147, [some (vR 111), some (vI l1), g2, some (vI l3), some (vI l4), some (vI l5), some (vI x16)], [], σ15)) hf (fun x16 hf => ?_)
        refine run_seg (k := 1) (s' := (106, [some (vR 111), some (vI l1), g2, some (vI l3), some (vI l4), some (vI l5), some (vI x16)], [], σ15)) rfl ?_
        exact ih hf
      · refine run_seg (k := 3) (s' := (if l5 = (-1) then (133, [some (vR 111), some (vI l1), g2, some (vI l3), some (vI l4), some (vI l5), some (vI l6)], [], σ15) else (130, [some (vR 111), some (vI l1), g2, some (vI l3), some (vI l4), some (vI l5), some (vI l6)], [], σ15))) rfl ?_
        refine run_ite hf (fun _ hf => ?_) (fun _ hf => ?_)
        · refine run_seg (k := 1) (s' := (136, [some (vR 111), some (vI l1), g2, some (vI (w32 (l3 + (-1)))), some (vI l4), some (vI l5), some (vI l6)], [], σ15)) rfl ?_
          refine run_let (fun x17 => (136, [some (vR 111), some (vI l1), g2, some (vI x17), some (vI l4), some (vI l5), some (vI l6)], [], σ15)) hf (fun x17 hf => ?_)
          refine run_seg (k := 2) (s' := (if x17 < 0 then (140, [some (vR 111), some (vI l1), g2, some (vI x17), some (vI l4), some (vI l5), some (vI l6)], [], σ15) else (144, [some (vR 111), some (vI l1), g2, some (vI x17), some (vI l4), some (vI l5), some (vI l6)], [], σ15))) rfl ?_
          refine run_ite hf (fun _ hf => ?_) (fun _ hf => ?_)
          · refine run_seg (k := 3) (s' := (147, [some (vR 111), some (vI l1), g2, some (vI x17), some (vI l4), some (vI l6), some (vI (w32 (l6 + 1)))], [], σ15)) rfl ?_
            refine run_let (fun x18 => (147, [some (vR 111), some (vI l1), g2, some (vI x17), some (vI l4), some (vI l6), some (vI x18)], [], σ15)) hf (fun x18 hf => ?_)
            refine run_seg (k := 1) (s' := (106, [some (vR 111), some (vI l1), g2, some (vI x17), some (vI l4), some (vI l6), some (vI x18)], [], σ15)) rfl ?_
            exact ih hf
          · refine run_seg (k := 1) (s' := (147, [some (vR 111), some (vI l1), g2, some (vI x17), some (vI l4), some (vI l5), some (vI (w32 (l6 + 1)))], [], σ15)) rfl ?_
            refine run_let (fun x19 => (147, [some (vR 111), some (vI l1), g2, some (vI x17), some (vI l4), some (vI l5), some (vI x19)], [], σ15)) hf (fun x19 hf => ?_)
            refine run_seg (k := 1) (s' := (106, [some (vR 111), some (vI l1), g2, some (vI x17), some (vI l4), some (vI l5), some (vI x19)], [], σ15)) rfl ?_
            exact ih hf
        · refine run_seg (k := 2) (s' := (147, [some (vR 111), some (vI l1), g2, some (vI l3), some (vI l4), some (vI l5), some (vI (w32 (l6 + 1)))], [], σ15)) rfl ?_
          refine run_let (fun x20 => (147, [some (vR 111), some (vI l1), g2, some (vI l3), some (vI l4), some (vI l5), some (vI x20)], [], σ15)) hf (fun x20 hf => ?_)
          refine run_seg (k := 1) (s' := (106, [some (vR 111), some (vI l1), g2, some (vI l3), some (vI l4), some (vI l5), some (vI x20)], [], σ15)) rfl ?_
          exact ih hf
    · refine run_seg (k := 3) (s' := (if l5 = (-1) then (156, [some (vR 111), some (vI l1), g2, some (vI l3), some (vI l4), some (vI l5), some (vI l6)], [], σ) else (159, [some (vR 111), some (vI l1), g2, some (vI l3), some (vI l4), some (vI l5), some (vI l6)], [], σ))) rfl ?_
      refine run_ite hf (fun _ hf => ?_) (fun _ hf => ?_)
      · refine run_seg (k := 2) (s' := (173, [some (vR 111), some (vI l1), g2, some (vI l3), some (vI (w32 (l4 + 1))), some (vI l5), some (vI l6)], [], σ)) rfl ?_
        refine run_let (fun x21 => (173, [some (vR 111), some (vI l1), g2, some (vI l3), some (vI x21), some (vI l5), some (vI l6)], [], σ)) hf (fun x21 hf => ?_)
        refine run_seg (k := 1) (s' := (82, [some (vR 111), some (vI l1), g2, some (vI l3), some (vI x21), some (vI l5), some (vI l6)], [], σ)) rfl ?_
        exact hk82 hf
      · refine run_seg (k := 5) (s' := (167, [some (vR 111), some (vI l1), g2, some (vI l3), some (vI l4), some (vI l5), some (vI l6)], [], upS σ 111 48 (w32 (l4 + 1)))) rfl ?_
        refine run_let (fun σ22 => (167, [some (vR 111), some (vI l1), g2, some (vI l3), some (vI l4), some (vI l5), some (vI l6)], [], σ22)) hf (fun σ22 hf => ?_)
        refine run_seg (k := 1) (s' := (169, [some (vR 111), some (vI l1), g2, some (vI l3), some (vI l4), some (vI l5), some (vI l6)], [vI l5], σ22)) rfl ?_
        exact run_ret hf rfl
theorem r_M_shared_82 : ∀ (n : Nat) {l1 : Int} {l3 : Int} {l4 : Int} {g2 : Option xV} {g5 : Option xV} {g6 : Option xV} {σ : xSt} {r : Int × xSt}, f_M_shared_82 n l1 l3 l4 σ = some r → Run 2 12 1 kX12_shared (82, [some (vR 111), some (vI l1), g2, some (vI l3), some (vI l4), g5, g6], [], σ) (tIW r) := by
  intro n
  induction n with
  | zero =>
    intro _ _ _ _ _ _ _ _ h
    exact nomatch (show (none : Option (Int × xSt)) = some _ from h)
  | succ n ih =>
    intro l1 l3 l4 g2 g5 g6 σ r hf
    unfold f_M_shared_82 at hf
    refine run_seg (k := 3) (s' := (if l4 < l1 then (88, [some (vR 111), some (vI l1), g2, some (vI l3), some (vI l4), g5, g6], [], σ) else (176, [some (vR 111), some (vI l1), g2, some (vI l3), some (vI l4), g5, g6], [], σ))) rfl ?_
    refine run_ite hf (fun _ hf => ?_) (fun _ hf => ?_)
    · refine run_seg (k := 6) (s' := (97, [some (vR 111), some (vI l1), g2, some (vI l3), some (vI l4), g5, g6], [vI l4, vR 125, vI (w32 (2 * l3))], σ)) rfl ?_
      refine run_guard (s' := (98, [some (vR 111), some (vI l1), g2, some (vI l3), some (vI l4), g5, g6], [vI (σ 125 l4.toNat), vI (w32 (2 * l3))], σ)) hf rfl (fun hf => ?_)
      refine run_seg (k := 2) (s' := (100, [some (vR 111), some (vI l1), g2, some (vI (w32 ((w32 (2 * l3)) + (σ 125 l4.toNat)))), some (vI l4), g5, g6], [], σ)) rfl ?_
      refine run_let (fun x12 => (100, [some (vR 111), some (vI l1), g2, some (vI x12), some (vI l4), g5, g6], [], σ)) hf (fun x12 hf => ?_)
      refine run_seg (k := 4) (s' := (106, [some (vR 111), some (vI l1), g2, some (vI x12), some (vI l4), some (vI (-1)), some (vI 0)], [], σ)) rfl ?_
      exact r_M_shared_106 (fun h => ih h) 1000000 hf
    · refine run_seg (k := 1) (s' := (177, [some (vR 111), some (vI l1), g2, some (vI l3), some (vI l4), g5, g6], [vI (-1)], σ)) rfl ?_
      exact run_ret hf rfl
theorem r_M_shared_52 : ∀ (n : Nat) {l1 : Int} {l3 : Int} {g2 : Option xV} {g4 : Option xV} {g5 : Option xV} {g6 : Option xV} {σ : xSt} {r : Int × xSt}, f_M_shared_52 n l1 l3 σ = some r → Run 2 12 1 kX12_shared (52, [some (vR 111), some (vI l1), g2, some (vI l3), g4, g5, g6], [], σ) (tIW r) := by
  intro n
  induction n with
  | zero =>
    intro _ _ _ _ _ _ _ _ h
    exact nomatch (show (none : Option (Int × xSt)) = some _ from h)
  | succ n ih =>
    intro l1 l3 g2 g4 g5 g6 σ r hf
    unfold f_M_shared_52 at hf
    refine run_seg (k := 2) (s' := (54, [some (vR 111), some (vI l1), g2, some (vI l3), g4, g5, g6], [vR 111, vI l3], σ)) rfl ?_
    refine run_callN (w := fun a => some (vI a)) (m := 246) (as := [vR 111]) (pc := 57) (ls := [some (vR 111), some (vI l1), g2, some (vI l3), g4, g5, g6]) (st' := [vI l3]) (σ := σ) hf rfl (fun _ h => (c_M_ends h).mono (by decide)) (fun r8 hf => ?_)
    refine run_seg (k := 1) (s' := (if l3 < r8 then (60, [some (vR 111), some (vI l1), g2, some (vI l3), g4, g5, g6], [], σ) else (77, [some (vR 111), some (vI l1), g2, some (vI l3), g4, g5, g6], [], σ))) rfl ?_
    refine run_ite hf (fun _ hf => ?_) (fun _ hf => ?_)
    · refine run_seg (k := 5) (s' := (67, [some (vR 111), some (vI l1), g2, some (vI l3), g4, g5, g6], [vI l3, vR 111, vI l3, vR 128], σ)) rfl ?_
      refine run_callN (w := fun a => some (vI a)) (m := 302) (as := [vR 111, vI l3]) (pc := 70) (ls := [some (vR 111), some (vI l1), g2, some (vI l3), g4, g5, g6]) (st' := [vI l3, vR 128]) (σ := σ) hf rfl (fun _ h => (c_M_shareOf h).mono (by decide)) (fun r9 hf => ?_)
      refine run_guard (s' := (71, [some (vR 111), some (vI l1), g2, some (vI l3), g4, g5, g6], [], upS σ 128 l3.toNat r9)) hf rfl (fun hf => ?_)
      refine run_let (fun σ10 => (71, [some (vR 111), some (vI l1), g2, some (vI l3), g4, g5, g6], [], σ10)) hf (fun σ10 hf => ?_)
      refine run_seg (k := 1) (s' := (74, [some (vR 111), some (vI l1), g2, some (vI (w32 (l3 + 1))), g4, g5, g6], [], σ10)) rfl ?_
      refine run_let (fun x11 => (74, [some (vR 111), some (vI l1), g2, some (vI x11), g4, g5, g6], [], σ10)) hf (fun x11 hf => ?_)
      refine run_seg (k := 1) (s' := (52, [some (vR 111), some (vI l1), g2, some (vI x11), g4, g5, g6], [], σ10)) rfl ?_
      exact ih hf
    · refine run_seg (k := 4) (s' := (82, [some (vR 111), some (vI l1), g2, some (vI 0), some (vI 0), g5, g6], [], σ)) rfl ?_
      exact r_M_shared_82 1000000 hf
theorem c_M_shared {σ : xSt} {r : Int × xSt} (hf : f_M_shared σ = some r) : Call (2 + 1) 307 [vR 111] σ (tIW r).1 (tIW r).2 := by
  unfold f_M_shared at hf
  refine call_of (own := 12) (rk := 1) (cd := kX12_shared) (ls := [some (vR 111), none, none, none, none, none, none]) (rT := tIW) rfl rfl rfl rfl rfl ?_
  refine run_seg (k := 3) (s' := (5, [some (vR 111), none, none, none, none, none, none], [], upS σ 111 0 0)) rfl ?_
  refine run_let (fun σ1 => (5, [some (vR 111), none, none, none, none, none, none], [], σ1)) hf (fun σ1 hf => ?_)
  refine run_seg (k := 1) (s' := (6, [some (vR 111), none, none, none, none, none, none], [vR 111], σ1)) rfl ?_
  refine run_callV (m := 233) (as := [vR 111]) (pc := 9) (ls := [some (vR 111), none, none, none, none, none, none]) (st' := []) (σ := σ1) hf rfl (fun _ h => (c_M_lay h).mono (by decide)) (fun σ2 hf => ?_)
  refine run_seg (k := 3) (s' := (14, [some (vR 111), none, none, none, none, none, none], [vI 600, vI 0, vR 111], σ2)) rfl ?_
  refine run_callW (w := fun a => some (vI a)) (m := 290) (as := [vR 111, vI 0, vI 600]) (pc := 17) (ls := [some (vR 111), none, none, none, none, none, none]) (st' := []) (σ := σ2) hf rfl (fun _ _ h => (c_M_takeRow h).mono (by decide)) (fun r3 σ4 hf => ?_)
  refine run_seg (k := 4) (s' := (if r3 = (-1) then (30, [some (vR 111), some (vI r3), none, none, none, none, none], [], σ4) else (23, [some (vR 111), some (vI r3), none, none, none, none, none], [], σ4))) rfl ?_
  refine run_ite hf (fun _ hf => ?_) (fun _ hf => ?_)
  · refine run_seg (k := 1) (s' := (32, [some (vR 111), some (vI r3), none, none, none, none, none], [vI (-2)], σ4)) rfl ?_
    exact run_ret hf rfl
  · refine run_seg (k := 1) (s' := (24, [some (vR 111), some (vI r3), none, none, none, none, none], [vR 111], σ4)) rfl ?_
    refine run_callN (w := fun a => some (vI a)) (m := 304) (as := [vR 111]) (pc := 27) (ls := [some (vR 111), some (vI r3), none, none, none, none, none]) (st' := []) (σ := σ4) hf rfl (fun _ h => (c_M_hasShares h).mono (by decide)) (fun r5 hf => ?_)
    refine run_seg (k := 1) (s' := (if r5 = 0 then (30, [some (vR 111), some (vI r3), none, none, none, none, none], [], σ4) else (33, [some (vR 111), some (vI r3), none, none, none, none, none], [], σ4))) rfl ?_
    refine run_ite hf (fun _ hf => ?_) (fun _ hf => ?_)
    · refine run_seg (k := 1) (s' := (32, [some (vR 111), some (vI r3), none, none, none, none, none], [vI (-2)], σ4)) rfl ?_
      exact run_ret hf rfl
    · refine run_seg (k := 1) (s' := (34, [some (vR 111), some (vI r3), none, none, none, none, none], [vR 111], σ4)) rfl ?_
      refine run_callN (w := fun a => some (vI a)) (m := 305) (as := [vR 111]) (pc := 37) (ls := [some (vR 111), some (vI r3), none, none, none, none, none]) (st' := []) (σ := σ4) hf rfl (fun _ h => (c_M_all h).mono (by decide)) (fun r6 hf => ?_)
      refine run_seg (k := 4) (s' := (if r6 = (-1) then (50, [some (vR 111), some (vI r3), some (vI r6), none, none, none, none], [], σ4) else (43, [some (vR 111), some (vI r3), some (vI r6), none, none, none, none], [], σ4))) rfl ?_
      refine run_ite hf (fun _ hf => ?_) (fun _ hf => ?_)
      · refine run_seg (k := 2) (s' := (52, [some (vR 111), some (vI r3), some (vI r6), some (vI 0), none, none, none], [], σ4)) rfl ?_
        exact r_M_shared_52 1000000 hf
      · refine run_seg (k := 3) (s' := (48, [some (vR 111), some (vI r3), some (vI r6), none, none, none, none], [], upS σ4 111 48 0)) rfl ?_
        refine run_let (fun σ7 => (48, [some (vR 111), some (vI r3), some (vI r6), none, none, none, none], [], σ7)) hf (fun σ7 hf => ?_)
        refine run_seg (k := 1) (s' := (49, [some (vR 111), some (vI r3), some (vI r6), none, none, none, none], [vI r6], σ7)) rfl ?_
        exact run_ret hf rfl
/-- BentPennyModel.took()I -/
def f_M_took (σ : xSt) : Option (Int × xSt) :=
  xlet (upS σ 111 0 0) fun σ1 =>
  some (σ1 111 48, σ1)
theorem c_M_took {σ : xSt} {r : Int × xSt} (hf : f_M_took σ = some r) : Call (0 + 1) 308 [vR 111] σ (tIW r).1 (tIW r).2 := by
  unfold f_M_took at hf
  refine call_of (own := 12) (rk := 1) (cd := kX12_took) (ls := [some (vR 111)]) (rT := tIW) rfl rfl rfl rfl rfl ?_
  refine run_seg (k := 3) (s' := (5, [some (vR 111)], [], upS σ 111 0 0)) rfl ?_
  refine run_let (fun σ1 => (5, [some (vR 111)], [], σ1)) hf (fun σ1 hf => ?_)
  refine run_seg (k := 2) (s' := (9, [some (vR 111)], [vI (σ1 111 48)], σ1)) rfl ?_
  exact run_ret hf rfl
def f_M_goesOn_4 : Nat → Int → Int → xSt → Option (Int)
  | 0, _, _, _ => none
  | n + 1, l1, l2, σ =>
    xbR (f_M_ends σ) fun r1 =>
    if l2 < r1 then (if 0 ≤ l2 ∧ l2 < 6 then (
    xlet (w32 (l1 + (σ 128 l2.toNat))) fun x2 =>
    xlet (w32 (l2 + 1)) fun x3 =>
    f_M_goesOn_4 n x2 x3 σ) else none)
    else (xbR (f_M_shareBelow σ) fun r4 =>
    if r4 = 0 then none else
    some (xdiv l1 r4))
/-- BentPennyModel.goesOn()I -/
def f_M_goesOn (σ : xSt) : Option (Int) :=
  f_M_goesOn_4 1000000 0 0 σ
theorem r_M_goesOn_4 : ∀ (n : Nat) {l1 : Int} {l2 : Int} {σ : xSt} {r : Int}, f_M_goesOn_4 n l1 l2 σ = some r → Run 1 12 1 kX12_goesOn (4, [some (vR 111), some (vI l1), some (vI l2)], [], σ) ((tI σ) r) := by
  intro n
  induction n with
  | zero =>
    intro _ _ _ _ h
    exact nomatch (show (none : Option (Int)) = some _ from h)
  | succ n ih =>
    intro l1 l2 σ r hf
    unfold f_M_goesOn_4 at hf
    refine run_seg (k := 2) (s' := (6, [some (vR 111), some (vI l1), some (vI l2)], [vR 111, vI l2], σ)) rfl ?_
    refine run_callN (w := fun a => some (vI a)) (m := 246) (as := [vR 111]) (pc := 9) (ls := [some (vR 111), some (vI l1), some (vI l2)]) (st' := [vI l2]) (σ := σ) hf rfl (fun _ h => (c_M_ends h).mono (by decide)) (fun r1 hf => ?_)
    refine run_seg (k := 1) (s' := (if l2 < r1 then (12, [some (vR 111), some (vI l1), some (vI l2)], [], σ) else (27, [some (vR 111), some (vI l1), some (vI l2)], [], σ))) rfl ?_
    refine run_ite hf (fun _ hf => ?_) (fun _ hf => ?_)
    · refine run_seg (k := 4) (s' := (18, [some (vR 111), some (vI l1), some (vI l2)], [vI l2, vR 128, vI l1], σ)) rfl ?_
      refine run_guard (s' := (19, [some (vR 111), some (vI l1), some (vI l2)], [vI (σ 128 l2.toNat), vI l1], σ)) hf rfl (fun hf => ?_)
      refine run_seg (k := 2) (s' := (21, [some (vR 111), some (vI (w32 (l1 + (σ 128 l2.toNat)))), some (vI l2)], [], σ)) rfl ?_
      refine run_let (fun x2 => (21, [some (vR 111), some (vI x2), some (vI l2)], [], σ)) hf (fun x2 hf => ?_)
      refine run_seg (k := 1) (s' := (24, [some (vR 111), some (vI x2), some (vI (w32 (l2 + 1)))], [], σ)) rfl ?_
      refine run_let (fun x3 => (24, [some (vR 111), some (vI x2), some (vI x3)], [], σ)) hf (fun x3 hf => ?_)
      refine run_seg (k := 1) (s' := (4, [some (vR 111), some (vI x2), some (vI x3)], [], σ)) rfl ?_
      exact ih hf
    · refine run_seg (k := 2) (s' := (29, [some (vR 111), some (vI l1), some (vI l2)], [vR 111, vI l1], σ)) rfl ?_
      refine run_callN (w := fun a => some (vI a)) (m := 303) (as := [vR 111]) (pc := 32) (ls := [some (vR 111), some (vI l1), some (vI l2)]) (st' := [vI l1]) (σ := σ) hf rfl (fun _ h => (c_M_shareBelow h).mono (by decide)) (fun r4 hf => ?_)
      refine run_gdiv (s' := (33, [some (vR 111), some (vI l1), some (vI l2)], [vI (xdiv l1 r4)], σ)) hf rfl (fun hf => ?_)
      exact run_ret hf rfl
theorem c_M_goesOn {σ : xSt} {r : Int} (hf : f_M_goesOn σ = some r) : Call (1 + 1) 309 [vR 111] σ ((tI σ) r).1 ((tI σ) r).2 := by
  unfold f_M_goesOn at hf
  refine call_of (own := 12) (rk := 1) (cd := kX12_goesOn) (ls := [some (vR 111), none, none]) (rT := (tI σ)) rfl rfl rfl rfl rfl ?_
  refine run_seg (k := 4) (s' := (4, [some (vR 111), some (vI 0), some (vI 0)], [], σ)) rfl ?_
  exact r_M_goesOn_4 1000000 hf
def f_M_fewest_20 (σ : xSt) : Option (Int × xSt) :=
  xbW (f_M_refuseLong σ) fun r6 σ7 =>
  some (r6, σ7)
def f_M_fewest_101 (k80 : (Int → Int → Int → xSt → Option (Int × xSt))) : Nat → Int → Int → Int → Int → xSt → Option (Int × xSt)
  | 0, _, _, _, _, _ => none
  | n + 1, l1, l2, l4, l5, σ =>
    xbR (f_M_ends σ) fun r15 =>
    if l5 < r15 then (xbW (f_M_digit l5 σ) fun r16 σ17 =>
    xlet (w32 (l5 + 1)) fun x18 =>
    f_M_fewest_101 k80 n l1 l2 l4 x18 σ17)
    else (xlet (w32 (l4 + 1)) fun x19 =>
    k80 l1 l2 x19 σ)
def f_M_fewest_214 (k190 : (Int → Int → Int → Int → Int → xSt → Option (Int × xSt))) : Nat → Int → Int → Int → Int → Int → Int → xSt → Option (Int × xSt)
  | 0, _, _, _, _, _, _, _ => none
  | n + 1, l1, l2, l5, l6, l8, l9, σ =>
    xbR (f_M_ends σ) fun r28 =>
    if l9 < r28 then (xbW (f_M_digit l9 σ) fun r29 σ30 =>
    xlet (w32 (l9 + 1)) fun x31 =>
    f_M_fewest_214 k190 n l1 l2 l5 l6 l8 x31 σ30)
    else (xlet (w32 (l8 + 1)) fun x32 =>
    k190 l1 l2 l5 l6 x32 σ)
def f_M_fewest_190 : Nat → Int → Int → Int → Int → Int → xSt → Option (Int × xSt)
  | 0, _, _, _, _, _, _ => none
  | n + 1, l1, l2, l5, l6, l8, σ =>
    if l8 < l5 then (xbR (f_M_goesOn σ) fun r24 =>
    xlet (w64 ((w64 (2 * l6)) + r24)) fun x25 =>
    f_M_fewest_214 (fun z0 z1 z2 z3 z4 sz => f_M_fewest_190 n z0 z1 z2 z3 z4 sz) 1000000 l1 l2 l5 x25 l8 0 σ)
    else (xlet (w64 ((xlshl 1 l5) - 1)) fun x26 =>
    xbR (f_M_part (w64 ((w64 (l2 * x26)) + l6)) (w64 (16 * x26)) l1 σ) fun r27 =>
    some (r27, σ))
def f_M_fewest_160 : Nat → Int → Int → Int → Int → Int → xSt → Option (Int × xSt)
  | 0, _, _, _, _, _, _ => none
  | n + 1, l1, l2, l4, l5, l6, σ =>
    if l4 = 0 then none else
    if l6 = xrem 1 l4 then (f_M_fewest_190 1000000 l1 l2 l5 0 0 σ)
    else (xlet (w32 (l5 + 1)) fun x22 =>
    if l4 = 0 then none else
    xlet (xrem (w32 (2 * l6)) l4) fun x23 =>
    f_M_fewest_160 n l1 l2 l4 x22 x23 σ)
def f_M_fewest_135 : Nat → Int → Int → Int → xSt → Option (Int × xSt)
  | 0, _, _, _, _ => none
  | n + 1, l1, l2, l4, σ =>
    if xrem l4 2 = 0 then (xlet (xdiv l4 2) fun x20 =>
    f_M_fewest_135 n l1 l2 x20 σ)
    else (if l4 = 0 then none else
    xlet (xrem 2 l4) fun x21 =>
    f_M_fewest_160 1000000 l1 l2 l4 1 x21 σ)
def f_M_fewest_80 : Nat → Int → Int → Int → xSt → Option (Int × xSt)
  | 0, _, _, _, _ => none
  | n + 1, l1, l2, l4, σ =>
    if l4 < 5 then (xbR (f_M_goesOn σ) fun r12 =>
    xlet (w64 ((w64 (2 * l2)) + r12)) fun x13 =>
    f_M_fewest_101 (fun z0 z1 z2 sz => f_M_fewest_80 n z0 z1 z2 sz) 1000000 l1 x13 l4 0 σ)
    else (xbR (f_M_shareBelow σ) fun r14 =>
    f_M_fewest_135 1000000 l1 l2 r14 σ)
def f_M_fewest_50 : Nat → Int → Int → xSt → Option (Int × xSt)
  | 0, _, _, _ => none
  | n + 1, l1, l2, σ =>
    xbR (f_M_ends σ) fun r8 =>
    if l2 < r8 then (xbR (f_M_shareOf l2 σ) fun r9 =>
    if 0 ≤ l2 ∧ l2 < 6 then (
    xlet (upS σ 128 l2.toNat r9) fun σ10 =>
    xlet (w32 (l2 + 1)) fun x11 =>
    f_M_fewest_50 n l1 x11 σ10) else none)
    else (f_M_fewest_80 1000000 l1 0 0 σ)
/-- BentPennyModel.fewest(I)J -/
def f_M_fewest (p1 : Int) (σ : xSt) : Option (Int × xSt) :=
  xbR (f_M_lay σ) fun σ1 =>
  xbR (f_M_isIn p1 0 1 σ1) fun r2 =>
  if r2 = 0 then (f_M_fewest_20 σ1)
  else (xbR (f_M_hasShares σ1) fun r3 =>
  if r3 = 0 then (f_M_fewest_20 σ1)
  else (xlet (upS σ1 111 0 0) fun σ4 =>
  xbR (f_M_all σ4) fun r5 =>
  if r5 = (-1) then (f_M_fewest_50 1000000 p1 0 σ4)
  else (if p1 = 0 then (some (0, σ4))
  else (some (1, σ4)))))
theorem r_M_fewest_20 {g1 : Option xV} {g2 : Option xV} {g3 : Option xV} {g4 : Option xV} {g5 : Option xV} {g6 : Option xV} {g7 : Option xV} {g8 : Option xV} {g9 : Option xV} {σ : xSt} {r : Int × xSt} (hf : f_M_fewest_20 σ = some r) : Run 2 12 3 kX12_fewest (20, [some (vR 111), g1, g2, g3, g4, g5, g6, g7, g8, g9], [], σ) (tLW r) := by
  unfold f_M_fewest_20 at hf
  refine run_seg (k := 1) (s' := (21, [some (vR 111), g1, g2, g3, g4, g5, g6, g7, g8, g9], [vR 111], σ)) rfl ?_
  refine run_callW (w := fun a => some (vL a)) (m := 211) (as := [vR 111]) (pc := 24) (ls := [some (vR 111), g1, g2, g3, g4, g5, g6, g7, g8, g9]) (st' := []) (σ := σ) hf rfl (fun _ _ h => (c_M_refuseLong h).mono (by decide)) (fun r6 σ7 hf => ?_)
  exact run_ret hf rfl
theorem r_M_fewest_101 {k80 : (Int → Int → Int → xSt → Option (Int × xSt))} (hk80 : ∀ {l1 : Int} {l2 : Int} {l4 : Int} {g5 : Option xV} {g6 : Option xV} {g7 : Option xV} {g8 : Option xV} {g9 : Option xV} {σ : xSt} {r : Int × xSt}, k80 l1 l2 l4 σ = some r → Run 2 12 3 kX12_fewest (80, [some (vR 111), some (vI l1), some (vL l2), none, some (vI l4), g5, g6, g7, g8, g9], [], σ) (tLW r)) : ∀ (n : Nat) {l1 : Int} {l2 : Int} {l4 : Int} {l5 : Int} {g6 : Option xV} {g7 : Option xV} {g8 : Option xV} {g9 : Option xV} {σ : xSt} {r : Int × xSt}, f_M_fewest_101 k80 n l1 l2 l4 l5 σ = some r → Run 2 12 3 kX12_fewest (101, [some (vR 111), some (vI l1), some (vL l2), none, some (vI l4), some (vI l5), g6, g7, g8, g9], [], σ) (tLW r) := by
  intro n
  induction n with
  | zero =>
    intro _ _ _ _ _ _ _ _ _ _ h
    exact nomatch (show (none : Option (Int × xSt)) = some _ from h)
  | succ n ih =>
    intro l1 l2 l4 l5 g6 g7 g8 g9 σ r hf
    unfold f_M_fewest_101 at hf
    refine run_seg (k := 2) (s' := (104, [some (vR 111), some (vI l1), some (vL l2), none, some (vI l4), some (vI l5), g6, g7, g8, g9], [vR 111, vI l5], σ)) rfl ?_
    refine run_callN (w := fun a => some (vI a)) (m := 246) (as := [vR 111]) (pc := 107) (ls := [some (vR 111), some (vI l1), some (vL l2), none, some (vI l4), some (vI l5), g6, g7, g8, g9]) (st' := [vI l5]) (σ := σ) hf rfl (fun _ h => (c_M_ends h).mono (by decide)) (fun r15 hf => ?_)
    refine run_seg (k := 1) (s' := (if l5 < r15 then (110, [some (vR 111), some (vI l1), some (vL l2), none, some (vI l4), some (vI l5), g6, g7, g8, g9], [], σ) else (123, [some (vR 111), some (vI l1), some (vL l2), none, some (vI l4), some (vI l5), g6, g7, g8, g9], [], σ))) rfl ?_
    refine run_ite hf (fun _ hf => ?_) (fun _ hf => ?_)
    · refine run_seg (k := 2) (s' := (113, [some (vR 111), some (vI l1), some (vL l2), none, some (vI l4), some (vI l5), g6, g7, g8, g9], [vI l5, vR 111], σ)) rfl ?_
      refine run_callW (w := fun a => some (vI a)) (m := 306) (as := [vR 111, vI l5]) (pc := 116) (ls := [some (vR 111), some (vI l1), some (vL l2), none, some (vI l4), some (vI l5), g6, g7, g8, g9]) (st' := []) (σ := σ) hf rfl (fun _ _ h => (c_M_digit h).mono (by decide)) (fun r16 σ17 hf => ?_)
      refine run_seg (k := 2) (s' := (120, [some (vR 111), some (vI l1), some (vL l2), none, some (vI l4), some (vI (w32 (l5 + 1))), g6, g7, g8, g9], [], σ17)) rfl ?_
      refine run_let (fun x18 => (120, [some (vR 111), some (vI l1), some (vL l2), none, some (vI l4), some (vI x18), g6, g7, g8, g9], [], σ17)) hf (fun x18 hf => ?_)
      refine run_seg (k := 1) (s' := (101, [some (vR 111), some (vI l1), some (vL l2), none, some (vI l4), some (vI x18), g6, g7, g8, g9], [], σ17)) rfl ?_
      exact ih hf
    · refine run_seg (k := 1) (s' := (126, [some (vR 111), some (vI l1), some (vL l2), none, some (vI (w32 (l4 + 1))), some (vI l5), g6, g7, g8, g9], [], σ)) rfl ?_
      refine run_let (fun x19 => (126, [some (vR 111), some (vI l1), some (vL l2), none, some (vI x19), some (vI l5), g6, g7, g8, g9], [], σ)) hf (fun x19 hf => ?_)
      refine run_seg (k := 1) (s' := (80, [some (vR 111), some (vI l1), some (vL l2), none, some (vI x19), some (vI l5), g6, g7, g8, g9], [], σ)) rfl ?_
      exact hk80 hf
theorem r_M_fewest_214 {k190 : (Int → Int → Int → Int → Int → xSt → Option (Int × xSt))} (hk190 : ∀ {l1 : Int} {l2 : Int} {l5 : Int} {l6 : Int} {l8 : Int} {g4 : Option xV} {g9 : Option xV} {σ : xSt} {r : Int × xSt}, k190 l1 l2 l5 l6 l8 σ = some r → Run 2 12 3 kX12_fewest (190, [some (vR 111), some (vI l1), some (vL l2), none, g4, some (vI l5), some (vL l6), none, some (vI l8), g9], [], σ) (tLW r)) : ∀ (n : Nat) {l1 : Int} {l2 : Int} {l5 : Int} {l6 : Int} {l8 : Int} {l9 : Int} {g4 : Option xV} {σ : xSt} {r : Int × xSt}, f_M_fewest_214 k190 n l1 l2 l5 l6 l8 l9 σ = some r → Run 2 12 3 kX12_fewest (214, [some (vR 111), some (vI l1), some (vL l2), none, g4, some (vI l5), some (vL l6), none, some (vI l8), some (vI l9)], [], σ) (tLW r) := by
  intro n
  induction n with
  | zero =>
    intro _ _ _ _ _ _ _ _ _ h
    exact nomatch (show (none : Option (Int × xSt)) = some _ from h)
  | succ n ih =>
    intro l1 l2 l5 l6 l8 l9 g4 σ r hf
    unfold f_M_fewest_214 at hf
    refine run_seg (k := 2) (s' := (217, [some (vR 111), some (vI l1), some (vL l2), none, g4, some (vI l5), some (vL l6), none, some (vI l8), some (vI l9)], [vR 111, vI l9], σ)) rfl ?_
    refine run_callN (w := fun a => some (vI a)) (m := 246) (as := [vR 111]) (pc := 220) (ls := [some (vR 111), some (vI l1), some (vL l2), none, g4, some (vI l5), some (vL l6), none, some (vI l8), some (vI l9)]) (st' := [vI l9]) (σ := σ) hf rfl (fun _ h => (c_M_ends h).mono (by decide)) (fun r28 hf => ?_)
    refine run_seg (k := 1) (s' := (if l9 < r28 then (223, [some (vR 111), some (vI l1), some (vL l2), none, g4, some (vI l5), some (vL l6), none, some (vI l8), some (vI l9)], [], σ) else (236, [some (vR 111), some (vI l1), some (vL l2), none, g4, some (vI l5), some (vL l6), none, some (vI l8), some (vI l9)], [], σ))) rfl ?_
    refine run_ite hf (fun _ hf => ?_) (fun _ hf => ?_)
    · refine run_seg (k := 2) (s' := (226, [some (vR 111), some (vI l1), some (vL l2), none, g4, some (vI l5), some (vL l6), none, some (vI l8), some (vI l9)], [vI l9, vR 111], σ)) rfl ?_
      refine run_callW (w := fun a => some (vI a)) (m := 306) (as := [vR 111, vI l9]) (pc := 229) (ls := [some (vR 111), some (vI l1), some (vL l2), none, g4, some (vI l5), some (vL l6), none, some (vI l8), some (vI l9)]) (st' := []) (σ := σ) hf rfl (fun _ _ h => (c_M_digit h).mono (by decide)) (fun r29 σ30 hf => ?_)
      refine run_seg (k := 2) (s' := (233, [some (vR 111), some (vI l1), some (vL l2), none, g4, some (vI l5), some (vL l6), none, some (vI l8), some (vI (w32 (l9 + 1)))], [], σ30)) rfl ?_
      refine run_let (fun x31 => (233, [some (vR 111), some (vI l1), some (vL l2), none, g4, some (vI l5), some (vL l6), none, some (vI l8), some (vI x31)], [], σ30)) hf (fun x31 hf => ?_)
      refine run_seg (k := 1) (s' := (214, [some (vR 111), some (vI l1), some (vL l2), none, g4, some (vI l5), some (vL l6), none, some (vI l8), some (vI x31)], [], σ30)) rfl ?_
      exact ih hf
    · refine run_seg (k := 1) (s' := (239, [some (vR 111), some (vI l1), some (vL l2), none, g4, some (vI l5), some (vL l6), none, some (vI (w32 (l8 + 1))), some (vI l9)], [], σ)) rfl ?_
      refine run_let (fun x32 => (239, [some (vR 111), some (vI l1), some (vL l2), none, g4, some (vI l5), some (vL l6), none, some (vI x32), some (vI l9)], [], σ)) hf (fun x32 hf => ?_)
      refine run_seg (k := 1) (s' := (190, [some (vR 111), some (vI l1), some (vL l2), none, g4, some (vI l5), some (vL l6), none, some (vI x32), some (vI l9)], [], σ)) rfl ?_
      exact hk190 hf
theorem r_M_fewest_190 : ∀ (n : Nat) {l1 : Int} {l2 : Int} {l5 : Int} {l6 : Int} {l8 : Int} {g4 : Option xV} {g9 : Option xV} {σ : xSt} {r : Int × xSt}, f_M_fewest_190 n l1 l2 l5 l6 l8 σ = some r → Run 2 12 3 kX12_fewest (190, [some (vR 111), some (vI l1), some (vL l2), none, g4, some (vI l5), some (vL l6), none, some (vI l8), g9], [], σ) (tLW r) := by
  intro n
  induction n with
  | zero =>
    intro _ _ _ _ _ _ _ _ _ h
    exact nomatch (show (none : Option (Int × xSt)) = some _ from h)
  | succ n ih =>
    intro l1 l2 l5 l6 l8 g4 g9 σ r hf
    unfold f_M_fewest_190 at hf
    refine run_seg (k := 3) (s' := (if l8 < l5 then (197, [some (vR 111), some (vI l1), some (vL l2), none, g4, some (vI l5), some (vL l6), none, some (vI l8), g9], [], σ) else (242, [some (vR 111), some (vI l1), some (vL l2), none, g4, some (vI l5), some (vL l6), none, some (vI l8), g9], [], σ))) rfl ?_
    refine run_ite hf (fun _ hf => ?_) (fun _ hf => ?_)
    · refine run_seg (k := 4) (s' := (204, [some (vR 111), some (vI l1), some (vL l2), none, g4, some (vI l5), some (vL l6), none, some (vI l8), g9], [vR 111, vL (w64 (2 * l6))], σ)) rfl ?_
      refine run_callN (w := fun a => some (vI a)) (m := 309) (as := [vR 111]) (pc := 207) (ls := [some (vR 111), some (vI l1), some (vL l2), none, g4, some (vI l5), some (vL l6), none, some (vI l8), g9]) (st' := [vL (w64 (2 * l6))]) (σ := σ) hf rfl (fun _ h => (c_M_goesOn h).mono (by decide)) (fun r24 hf => ?_)
      refine run_seg (k := 3) (s' := (211, [some (vR 111), some (vI l1), some (vL l2), none, g4, some (vI l5), some (vL (w64 ((w64 (2 * l6)) + r24))), none, some (vI l8), g9], [], σ)) rfl ?_
      refine run_let (fun x25 => (211, [some (vR 111), some (vI l1), some (vL l2), none, g4, some (vI l5), some (vL x25), none, some (vI l8), g9], [], σ)) hf (fun x25 hf => ?_)
      refine run_seg (k := 2) (s' := (214, [some (vR 111), some (vI l1), some (vL l2), none, g4, some (vI l5), some (vL x25), none, some (vI l8), some (vI 0)], [], σ)) rfl ?_
      exact r_M_fewest_214 (fun h => ih h) 1000000 hf
    · refine run_seg (k := 6) (s' := (250, [some (vR 111), some (vI l1), some (vL l2), none, g4, some (vI l5), some (vL l6), none, some (vL (w64 ((xlshl 1 l5) - 1))), none], [], σ)) rfl ?_
      refine run_let (fun x26 => (250, [some (vR 111), some (vI l1), some (vL l2), none, g4, some (vI l5), some (vL l6), none, some (vL x26), none], [], σ)) hf (fun x26 hf => ?_)
      refine run_seg (k := 9) (s' := (264, [some (vR 111), some (vI l1), some (vL l2), none, g4, some (vI l5), some (vL l6), none, some (vL x26), none], [vI l1, vL (w64 (16 * x26)), vL (w64 ((w64 (l2 * x26)) + l6))], σ)) rfl ?_
      refine run_callN (w := fun a => some (vL a)) (m := 219) (as := [vL (w64 ((w64 (l2 * x26)) + l6)), vL (w64 (16 * x26)), vI l1]) (pc := 267) (ls := [some (vR 111), some (vI l1), some (vL l2), none, g4, some (vI l5), some (vL l6), none, some (vL x26), none]) (st' := []) (σ := σ) hf rfl (fun _ h => (c_M_part h).mono (by decide)) (fun r27 hf => ?_)
      exact run_ret hf rfl
theorem r_M_fewest_160 : ∀ (n : Nat) {l1 : Int} {l2 : Int} {l4 : Int} {l5 : Int} {l6 : Int} {g7 : Option xV} {g8 : Option xV} {g9 : Option xV} {σ : xSt} {r : Int × xSt}, f_M_fewest_160 n l1 l2 l4 l5 l6 σ = some r → Run 2 12 3 kX12_fewest (160, [some (vR 111), some (vI l1), some (vL l2), none, some (vI l4), some (vI l5), some (vI l6), g7, g8, g9], [], σ) (tLW r) := by
  intro n
  induction n with
  | zero =>
    intro _ _ _ _ _ _ _ _ _ _ h
    exact nomatch (show (none : Option (Int × xSt)) = some _ from h)
  | succ n ih =>
    intro l1 l2 l4 l5 l6 g7 g8 g9 σ r hf
    unfold f_M_fewest_160 at hf
    refine run_seg (k := 3) (s' := (165, [some (vR 111), some (vI l1), some (vL l2), none, some (vI l4), some (vI l5), some (vI l6), g7, g8, g9], [vI l4, vI 1, vI l6], σ)) rfl ?_
    refine run_gdiv (s' := (166, [some (vR 111), some (vI l1), some (vL l2), none, some (vI l4), some (vI l5), some (vI l6), g7, g8, g9], [vI (xrem 1 l4), vI l6], σ)) hf rfl (fun hf => ?_)
    refine run_seg (k := 1) (s' := (if l6 = xrem 1 l4 then (184, [some (vR 111), some (vI l1), some (vL l2), none, some (vI l4), some (vI l5), some (vI l6), g7, g8, g9], [], σ) else (169, [some (vR 111), some (vI l1), some (vL l2), none, some (vI l4), some (vI l5), some (vI l6), g7, g8, g9], [], σ))) rfl ?_
    refine run_ite hf (fun _ hf => ?_) (fun _ hf => ?_)
    · refine run_seg (k := 4) (s' := (190, [some (vR 111), some (vI l1), some (vL l2), none, some (vI l4), some (vI l5), some (vL 0), none, some (vI 0), g9], [], σ)) rfl ?_
      exact r_M_fewest_190 1000000 hf
    · refine run_seg (k := 1) (s' := (172, [some (vR 111), some (vI l1), some (vL l2), none, some (vI l4), some (vI (w32 (l5 + 1))), some (vI l6), g7, g8, g9], [], σ)) rfl ?_
      refine run_let (fun x22 => (172, [some (vR 111), some (vI l1), some (vL l2), none, some (vI l4), some (vI x22), some (vI l6), g7, g8, g9], [], σ)) hf (fun x22 hf => ?_)
      refine run_seg (k := 4) (s' := (178, [some (vR 111), some (vI l1), some (vL l2), none, some (vI l4), some (vI x22), some (vI l6), g7, g8, g9], [vI l4, vI (w32 (2 * l6))], σ)) rfl ?_
      refine run_gdiv (s' := (179, [some (vR 111), some (vI l1), some (vL l2), none, some (vI l4), some (vI x22), some (vI l6), g7, g8, g9], [vI (xrem (w32 (2 * l6)) l4)], σ)) hf rfl (fun hf => ?_)
      refine run_seg (k := 1) (s' := (181, [some (vR 111), some (vI l1), some (vL l2), none, some (vI l4), some (vI x22), some (vI (xrem (w32 (2 * l6)) l4)), g7, g8, g9], [], σ)) rfl ?_
      refine run_let (fun x23 => (181, [some (vR 111), some (vI l1), some (vL l2), none, some (vI l4), some (vI x22), some (vI x23), g7, g8, g9], [], σ)) hf (fun x23 hf => ?_)
      refine run_seg (k := 1) (s' := (160, [some (vR 111), some (vI l1), some (vL l2), none, some (vI l4), some (vI x22), some (vI x23), g7, g8, g9], [], σ)) rfl ?_
      exact ih hf
theorem r_M_fewest_135 : ∀ (n : Nat) {l1 : Int} {l2 : Int} {l4 : Int} {g5 : Option xV} {g6 : Option xV} {g7 : Option xV} {g8 : Option xV} {g9 : Option xV} {σ : xSt} {r : Int × xSt}, f_M_fewest_135 n l1 l2 l4 σ = some r → Run 2 12 3 kX12_fewest (135, [some (vR 111), some (vI l1), some (vL l2), none, some (vI l4), g5, g6, g7, g8, g9], [], σ) (tLW r) := by
  intro n
  induction n with
  | zero =>
    intro _ _ _ _ _ _ _ _ _ _ h
    exact nomatch (show (none : Option (Int × xSt)) = some _ from h)
  | succ n ih =>
    intro l1 l2 l4 g5 g6 g7 g8 g9 σ r hf
    unfold f_M_fewest_135 at hf
    refine run_seg (k := 4) (s' := (if xrem l4 2 = 0 then (142, [some (vR 111), some (vI l1), some (vL l2), none, some (vI l4), g5, g6, g7, g8, g9], [], σ) else (151, [some (vR 111), some (vI l1), some (vL l2), none, some (vI l4), g5, g6, g7, g8, g9], [], σ))) rfl ?_
    refine run_ite hf (fun _ hf => ?_) (fun _ hf => ?_)
    · refine run_seg (k := 4) (s' := (148, [some (vR 111), some (vI l1), some (vL l2), none, some (vI (xdiv l4 2)), g5, g6, g7, g8, g9], [], σ)) rfl ?_
      refine run_let (fun x20 => (148, [some (vR 111), some (vI l1), some (vL l2), none, some (vI x20), g5, g6, g7, g8, g9], [], σ)) hf (fun x20 hf => ?_)
      refine run_seg (k := 1) (s' := (135, [some (vR 111), some (vI l1), some (vL l2), none, some (vI x20), g5, g6, g7, g8, g9], [], σ)) rfl ?_
      exact ih hf
    · refine run_seg (k := 4) (s' := (157, [some (vR 111), some (vI l1), some (vL l2), none, some (vI l4), some (vI 1), g6, g7, g8, g9], [vI l4, vI 2], σ)) rfl ?_
      refine run_gdiv (s' := (158, [some (vR 111), some (vI l1), some (vL l2), none, some (vI l4), some (vI 1), g6, g7, g8, g9], [vI (xrem 2 l4)], σ)) hf rfl (fun hf => ?_)
      refine run_seg (k := 1) (s' := (160, [some (vR 111), some (vI l1), some (vL l2), none, some (vI l4), some (vI 1), some (vI (xrem 2 l4)), g7, g8, g9], [], σ)) rfl ?_
      refine run_let (fun x21 => (160, [some (vR 111), some (vI l1), some (vL l2), none, some (vI l4), some (vI 1), some (vI x21), g7, g8, g9], [], σ)) hf (fun x21 hf => ?_)
      exact r_M_fewest_160 1000000 hf
theorem r_M_fewest_80 : ∀ (n : Nat) {l1 : Int} {l2 : Int} {l4 : Int} {g5 : Option xV} {g6 : Option xV} {g7 : Option xV} {g8 : Option xV} {g9 : Option xV} {σ : xSt} {r : Int × xSt}, f_M_fewest_80 n l1 l2 l4 σ = some r → Run 2 12 3 kX12_fewest (80, [some (vR 111), some (vI l1), some (vL l2), none, some (vI l4), g5, g6, g7, g8, g9], [], σ) (tLW r) := by
  intro n
  induction n with
  | zero =>
    intro _ _ _ _ _ _ _ _ _ _ h
    exact nomatch (show (none : Option (Int × xSt)) = some _ from h)
  | succ n ih =>
    intro l1 l2 l4 g5 g6 g7 g8 g9 σ r hf
    unfold f_M_fewest_80 at hf
    refine run_seg (k := 3) (s' := (if l4 < 5 then (86, [some (vR 111), some (vI l1), some (vL l2), none, some (vI l4), g5, g6, g7, g8, g9], [], σ) else (129, [some (vR 111), some (vI l1), some (vL l2), none, some (vI l4), g5, g6, g7, g8, g9], [], σ))) rfl ?_
    refine run_ite hf (fun _ hf => ?_) (fun _ hf => ?_)
    · refine run_seg (k := 4) (s' := (92, [some (vR 111), some (vI l1), some (vL l2), none, some (vI l4), g5, g6, g7, g8, g9], [vR 111, vL (w64 (2 * l2))], σ)) rfl ?_
      refine run_callN (w := fun a => some (vI a)) (m := 309) (as := [vR 111]) (pc := 95) (ls := [some (vR 111), some (vI l1), some (vL l2), none, some (vI l4), g5, g6, g7, g8, g9]) (st' := [vL (w64 (2 * l2))]) (σ := σ) hf rfl (fun _ h => (c_M_goesOn h).mono (by decide)) (fun r12 hf => ?_)
      refine run_seg (k := 3) (s' := (98, [some (vR 111), some (vI l1), some (vL (w64 ((w64 (2 * l2)) + r12))), none, some (vI l4), g5, g6, g7, g8, g9], [], σ)) rfl ?_
      refine run_let (fun x13 => (98, [some (vR 111), some (vI l1), some (vL x13), none, some (vI l4), g5, g6, g7, g8, g9], [], σ)) hf (fun x13 hf => ?_)
      refine run_seg (k := 2) (s' := (101, [some (vR 111), some (vI l1), some (vL x13), none, some (vI l4), some (vI 0), g6, g7, g8, g9], [], σ)) rfl ?_
      exact r_M_fewest_101 (fun h => ih h) 1000000 hf
    · refine run_seg (k := 1) (s' := (130, [some (vR 111), some (vI l1), some (vL l2), none, some (vI l4), g5, g6, g7, g8, g9], [vR 111], σ)) rfl ?_
      refine run_callN (w := fun a => some (vI a)) (m := 303) (as := [vR 111]) (pc := 133) (ls := [some (vR 111), some (vI l1), some (vL l2), none, some (vI l4), g5, g6, g7, g8, g9]) (st' := []) (σ := σ) hf rfl (fun _ h => (c_M_shareBelow h).mono (by decide)) (fun r14 hf => ?_)
      refine run_seg (k := 1) (s' := (135, [some (vR 111), some (vI l1), some (vL l2), none, some (vI r14), g5, g6, g7, g8, g9], [], σ)) rfl ?_
      exact r_M_fewest_135 1000000 hf
theorem r_M_fewest_50 : ∀ (n : Nat) {l1 : Int} {l2 : Int} {g3 : Option xV} {g4 : Option xV} {g5 : Option xV} {g6 : Option xV} {g7 : Option xV} {g8 : Option xV} {g9 : Option xV} {σ : xSt} {r : Int × xSt}, f_M_fewest_50 n l1 l2 σ = some r → Run 2 12 3 kX12_fewest (50, [some (vR 111), some (vI l1), some (vI l2), g3, g4, g5, g6, g7, g8, g9], [], σ) (tLW r) := by
  intro n
  induction n with
  | zero =>
    intro _ _ _ _ _ _ _ _ _ _ _ h
    exact nomatch (show (none : Option (Int × xSt)) = some _ from h)
  | succ n ih =>
    intro l1 l2 g3 g4 g5 g6 g7 g8 g9 σ r hf
    unfold f_M_fewest_50 at hf
    refine run_seg (k := 2) (s' := (52, [some (vR 111), some (vI l1), some (vI l2), g3, g4, g5, g6, g7, g8, g9], [vR 111, vI l2], σ)) rfl ?_
    refine run_callN (w := fun a => some (vI a)) (m := 246) (as := [vR 111]) (pc := 55) (ls := [some (vR 111), some (vI l1), some (vI l2), g3, g4, g5, g6, g7, g8, g9]) (st' := [vI l2]) (σ := σ) hf rfl (fun _ h => (c_M_ends h).mono (by decide)) (fun r8 hf => ?_)
    refine run_seg (k := 1) (s' := (if l2 < r8 then (58, [some (vR 111), some (vI l1), some (vI l2), g3, g4, g5, g6, g7, g8, g9], [], σ) else (75, [some (vR 111), some (vI l1), some (vI l2), g3, g4, g5, g6, g7, g8, g9], [], σ))) rfl ?_
    refine run_ite hf (fun _ hf => ?_) (fun _ hf => ?_)
    · refine run_seg (k := 5) (s' := (65, [some (vR 111), some (vI l1), some (vI l2), g3, g4, g5, g6, g7, g8, g9], [vI l2, vR 111, vI l2, vR 128], σ)) rfl ?_
      refine run_callN (w := fun a => some (vI a)) (m := 302) (as := [vR 111, vI l2]) (pc := 68) (ls := [some (vR 111), some (vI l1), some (vI l2), g3, g4, g5, g6, g7, g8, g9]) (st' := [vI l2, vR 128]) (σ := σ) hf rfl (fun _ h => (c_M_shareOf h).mono (by decide)) (fun r9 hf => ?_)
      refine run_guard (s' := (69, [some (vR 111), some (vI l1), some (vI l2), g3, g4, g5, g6, g7, g8, g9], [], upS σ 128 l2.toNat r9)) hf rfl (fun hf => ?_)
      refine run_let (fun σ10 => (69, [some (vR 111), some (vI l1), some (vI l2), g3, g4, g5, g6, g7, g8, g9], [], σ10)) hf (fun σ10 hf => ?_)
      refine run_seg (k := 1) (s' := (72, [some (vR 111), some (vI l1), some (vI (w32 (l2 + 1))), g3, g4, g5, g6, g7, g8, g9], [], σ10)) rfl ?_
      refine run_let (fun x11 => (72, [some (vR 111), some (vI l1), some (vI x11), g3, g4, g5, g6, g7, g8, g9], [], σ10)) hf (fun x11 hf => ?_)
      refine run_seg (k := 1) (s' := (50, [some (vR 111), some (vI l1), some (vI x11), g3, g4, g5, g6, g7, g8, g9], [], σ10)) rfl ?_
      exact ih hf
    · refine run_seg (k := 4) (s' := (80, [some (vR 111), some (vI l1), some (vL 0), none, some (vI 0), g5, g6, g7, g8, g9], [], σ)) rfl ?_
      exact r_M_fewest_80 1000000 hf
theorem c_M_fewest {p1 : Int} {σ : xSt} {r : Int × xSt} (hf : f_M_fewest p1 σ = some r) : Call (2 + 1) 310 [vR 111, vI p1] σ (tLW r).1 (tLW r).2 := by
  unfold f_M_fewest at hf
  refine call_of (own := 12) (rk := 3) (cd := kX12_fewest) (ls := [some (vR 111), some (vI p1), none, none, none, none, none, none, none, none]) (rT := tLW) rfl rfl rfl rfl rfl ?_
  refine run_seg (k := 1) (s' := (1, [some (vR 111), some (vI p1), none, none, none, none, none, none, none, none], [vR 111], σ)) rfl ?_
  refine run_callV (m := 233) (as := [vR 111]) (pc := 4) (ls := [some (vR 111), some (vI p1), none, none, none, none, none, none, none, none]) (st' := []) (σ := σ) hf rfl (fun _ h => (c_M_lay h).mono (by decide)) (fun σ1 hf => ?_)
  refine run_seg (k := 3) (s' := (7, [some (vR 111), some (vI p1), none, none, none, none, none, none, none, none], [vI 1, vI 0, vI p1], σ1)) rfl ?_
  refine run_callN (w := fun a => some (vI a)) (m := 216) (as := [vI p1, vI 0, vI 1]) (pc := 10) (ls := [some (vR 111), some (vI p1), none, none, none, none, none, none, none, none]) (st' := []) (σ := σ1) hf rfl (fun _ h => (c_M_isIn h).mono (by decide)) (fun r2 hf => ?_)
  refine run_seg (k := 1) (s' := (if r2 = 0 then (20, [some (vR 111), some (vI p1), none, none, none, none, none, none, none, none], [], σ1) else (13, [some (vR 111), some (vI p1), none, none, none, none, none, none, none, none], [], σ1))) rfl ?_
  refine run_ite hf (fun _ hf => ?_) (fun _ hf => ?_)
  · exact r_M_fewest_20 hf
  · refine run_seg (k := 1) (s' := (14, [some (vR 111), some (vI p1), none, none, none, none, none, none, none, none], [vR 111], σ1)) rfl ?_
    refine run_callN (w := fun a => some (vI a)) (m := 304) (as := [vR 111]) (pc := 17) (ls := [some (vR 111), some (vI p1), none, none, none, none, none, none, none, none]) (st' := []) (σ := σ1) hf rfl (fun _ h => (c_M_hasShares h).mono (by decide)) (fun r3 hf => ?_)
    refine run_seg (k := 1) (s' := (if r3 = 0 then (20, [some (vR 111), some (vI p1), none, none, none, none, none, none, none, none], [], σ1) else (25, [some (vR 111), some (vI p1), none, none, none, none, none, none, none, none], [], σ1))) rfl ?_
    refine run_ite hf (fun _ hf => ?_) (fun _ hf => ?_)
    · exact r_M_fewest_20 hf
    · refine run_seg (k := 3) (s' := (30, [some (vR 111), some (vI p1), none, none, none, none, none, none, none, none], [], upS σ1 111 0 0)) rfl ?_
      refine run_let (fun σ4 => (30, [some (vR 111), some (vI p1), none, none, none, none, none, none, none, none], [], σ4)) hf (fun σ4 hf => ?_)
      refine run_seg (k := 1) (s' := (31, [some (vR 111), some (vI p1), none, none, none, none, none, none, none, none], [vR 111], σ4)) rfl ?_
      refine run_callN (w := fun a => some (vI a)) (m := 305) (as := [vR 111]) (pc := 34) (ls := [some (vR 111), some (vI p1), none, none, none, none, none, none, none, none]) (st' := []) (σ := σ4) hf rfl (fun _ h => (c_M_all h).mono (by decide)) (fun r5 hf => ?_)
      refine run_seg (k := 2) (s' := (if r5 = (-1) then (48, [some (vR 111), some (vI p1), none, none, none, none, none, none, none, none], [], σ4) else (38, [some (vR 111), some (vI p1), none, none, none, none, none, none, none, none], [], σ4))) rfl ?_
      refine run_ite hf (fun _ hf => ?_) (fun _ hf => ?_)
      · refine run_seg (k := 2) (s' := (50, [some (vR 111), some (vI p1), some (vI 0), none, none, none, none, none, none, none], [], σ4)) rfl ?_
        exact r_M_fewest_50 1000000 hf
      · refine run_seg (k := 2) (s' := (if p1 = 0 then (42, [some (vR 111), some (vI p1), none, none, none, none, none, none, none, none], [], σ4) else (46, [some (vR 111), some (vI p1), none, none, none, none, none, none, none, none], [], σ4))) rfl ?_
        refine run_ite hf (fun _ hf => ?_) (fun _ hf => ?_)
        · refine run_seg (k := 2) (s' := (47, [some (vR 111), some (vI p1), none, none, none, none, none, none, none, none], [vL 0], σ4)) rfl ?_
          exact run_ret hf rfl
        · refine run_seg (k := 1) (s' := (47, [some (vR 111), some (vI p1), none, none, none, none, none, none, none, none], [vL 1], σ4)) rfl ?_
          exact run_ret hf rfl
def f_M_layNear_95 (k82 : (Int → xSt → Option (xSt))) : Nat → Int → Int → Int → xSt → Option (xSt)
  | 0, _, _, _, _ => none
  | n + 1, l4, l6, l7, σ =>
    xbR (f_M_ends σ) fun r11 =>
    if l7 < r11 then (if 0 ≤ l7 ∧ l7 < 6 then (
    if 0 ≤ l6 ∧ l6 < 6 then (
    if σ 128 l6.toNat < σ 128 l7.toNat then (xlet (w32 (l7 + 1)) fun x12 =>
    f_M_layNear_95 k82 n l4 l7 x12 σ)
    else (xlet (w32 (l7 + 1)) fun x13 =>
    f_M_layNear_95 k82 n l4 l6 x13 σ)) else none) else none)
    else (if 0 ≤ l6 ∧ l6 < 6 then (
    if 0 ≤ l6 ∧ l6 < 6 then (
    xlet (upS σ 129 l6.toNat (w64 ((σ 129 l6.toNat) + 1))) fun σ14 =>
    if 0 ≤ l6 ∧ l6 < 6 then (
    xlet (upS σ14 128 l6.toNat (-1)) fun σ15 =>
    xlet (w64 (l4 - 1)) fun x16 =>
    k82 x16 σ15) else none) else none) else none)
def f_M_layNear_82 : Nat → Int → xSt → Option (xSt)
  | 0, _, _ => none
  | n + 1, l4, σ =>
    if 0 < xlc l4 0 then (f_M_layNear_95 (fun z0 sz => f_M_layNear_82 n z0 sz) 1000000 l4 0 1 σ)
    else (some σ)
def f_M_layNear_10 : Nat → Int → Int → Int → xSt → Option (xSt)
  | 0, _, _, _, _ => none
  | n + 1, l2, l4, l6, σ =>
    xbR (f_M_ends σ) fun r2 =>
    if l6 < r2 then (xbR (f_M_shareOf l6 σ) fun r3 =>
    xbR (f_M_shareBelow σ) fun r4 =>
    if r4 = 0 then none else
    if 0 ≤ l6 ∧ l6 < 6 then (
    xlet (upS σ 129 l6.toNat (xldiv (w64 (l2 * r3)) r4)) fun σ5 =>
    xbR (f_M_shareOf l6 σ5) fun r6 =>
    xbR (f_M_shareBelow σ5) fun r7 =>
    if r7 = 0 then none else
    if 0 ≤ l6 ∧ l6 < 6 then (
    xlet (upS σ5 128 l6.toNat (w32 (xlrem (w64 (l2 * r6)) r7))) fun σ8 =>
    if 0 ≤ l6 ∧ l6 < 6 then (
    xlet (w64 (l4 - (σ8 129 l6.toNat))) fun x9 =>
    xlet (w32 (l6 + 1)) fun x10 =>
    f_M_layNear_10 n l2 x9 x10 σ8) else none) else none) else none)
    else (f_M_layNear_82 1000000 l4 σ)
/-- BentPennyModel.layNear(I)V -/
def f_M_layNear (p1 : Int) (σ : xSt) : Option (xSt) :=
  xlet (xlshl 1 p1) fun x1 =>
  f_M_layNear_10 1000000 x1 x1 0 σ
theorem r_M_layNear_95 {k82 : (Int → xSt → Option (xSt))} (hk82 : ∀ {l4 : Int} {g1 : Option xV} {g2 : Option xV} {g3 : Option xV} {g6 : Option xV} {g7 : Option xV} {σ : xSt} {r : xSt}, k82 l4 σ = some r → Run 1 12 0 kX12_layNear (82, [some (vR 111), g1, g2, g3, some (vL l4), none, g6, g7], [], σ) (tV r)) : ∀ (n : Nat) {l4 : Int} {l6 : Int} {l7 : Int} {g1 : Option xV} {g2 : Option xV} {g3 : Option xV} {σ : xSt} {r : xSt}, f_M_layNear_95 k82 n l4 l6 l7 σ = some r → Run 1 12 0 kX12_layNear (95, [some (vR 111), g1, g2, g3, some (vL l4), none, some (vI l6), some (vI l7)], [], σ) (tV r) := by
  intro n
  induction n with
  | zero =>
    intro _ _ _ _ _ _ _ _ h
    exact nomatch (show (none : Option (xSt)) = some _ from h)
  | succ n ih =>
    intro l4 l6 l7 g1 g2 g3 σ r hf
    unfold f_M_layNear_95 at hf
    refine run_seg (k := 2) (s' := (98, [some (vR 111), g1, g2, g3, some (vL l4), none, some (vI l6), some (vI l7)], [vR 111, vI l7], σ)) rfl ?_
    refine run_callN (w := fun a => some (vI a)) (m := 246) (as := [vR 111]) (pc := 101) (ls := [some (vR 111), g1, g2, g3, some (vL l4), none, some (vI l6), some (vI l7)]) (st' := [vI l7]) (σ := σ) hf rfl (fun _ h => (c_M_ends h).mono (by decide)) (fun r11 hf => ?_)
    refine run_seg (k := 1) (s' := (if l7 < r11 then (104, [some (vR 111), g1, g2, g3, some (vL l4), none, some (vI l6), some (vI l7)], [], σ) else (131, [some (vR 111), g1, g2, g3, some (vL l4), none, some (vI l6), some (vI l7)], [], σ))) rfl ?_
    refine run_ite hf (fun _ hf => ?_) (fun _ hf => ?_)
    · refine run_seg (k := 3) (s' := (110, [some (vR 111), g1, g2, g3, some (vL l4), none, some (vI l6), some (vI l7)], [vI l7, vR 128], σ)) rfl ?_
      refine run_guard (s' := (111, [some (vR 111), g1, g2, g3, some (vL l4), none, some (vI l6), some (vI l7)], [vI (σ 128 l7.toNat)], σ)) hf rfl (fun hf => ?_)
      refine run_seg (k := 3) (s' := (117, [some (vR 111), g1, g2, g3, some (vL l4), none, some (vI l6), some (vI l7)], [vI l6, vR 128, vI (σ 128 l7.toNat)], σ)) rfl ?_
      refine run_guard (s' := (118, [some (vR 111), g1, g2, g3, some (vL l4), none, some (vI l6), some (vI l7)], [vI (σ 128 l6.toNat), vI (σ 128 l7.toNat)], σ)) hf rfl (fun hf => ?_)
      refine run_seg (k := 1) (s' := (if σ 128 l6.toNat < σ 128 l7.toNat then (121, [some (vR 111), g1, g2, g3, some (vL l4), none, some (vI l6), some (vI l7)], [], σ) else (125, [some (vR 111), g1, g2, g3, some (vL l4), none, some (vI l6), some (vI l7)], [], σ))) rfl ?_
      refine run_ite hf (fun _ hf => ?_) (fun _ hf => ?_)
      · refine run_seg (k := 3) (s' := (128, [some (vR 111), g1, g2, g3, some (vL l4), none, some (vI l7), some (vI (w32 (l7 + 1)))], [], σ)) rfl ?_
        refine run_let (fun x12 => (128, [some (vR 111), g1, g2, g3, some (vL l4), none, some (vI l7), some (vI x12)], [], σ)) hf (fun x12 hf => ?_)
        refine run_seg (k := 1) (s' := (95, [some (vR 111), g1, g2, g3, some (vL l4), none, some (vI l7), some (vI x12)], [], σ)) rfl ?_
        exact ih hf
      · refine run_seg (k := 1) (s' := (128, [some (vR 111), g1, g2, g3, some (vL l4), none, some (vI l6), some (vI (w32 (l7 + 1)))], [], σ)) rfl ?_
        refine run_let (fun x13 => (128, [some (vR 111), g1, g2, g3, some (vL l4), none, some (vI l6), some (vI x13)], [], σ)) hf (fun x13 hf => ?_)
        refine run_seg (k := 1) (s' := (95, [some (vR 111), g1, g2, g3, some (vL l4), none, some (vI l6), some (vI x13)], [], σ)) rfl ?_
        exact ih hf
    · refine run_seg (k := 4) (s' := (138, [some (vR 111), g1, g2, g3, some (vL l4), none, some (vI l6), some (vI l7)], [vI l6, vR 129, vI l6, vR 129], σ)) rfl ?_
      refine run_guard (s' := (139, [some (vR 111), g1, g2, g3, some (vL l4), none, some (vI l6), some (vI l7)], [vL (σ 129 l6.toNat), vI l6, vR 129], σ)) hf rfl (fun hf => ?_)
      refine run_seg (k := 2) (s' := (141, [some (vR 111), g1, g2, g3, some (vL l4), none, some (vI l6), some (vI l7)], [vL (w64 ((σ 129 l6.toNat) + 1)), vI l6, vR 129], σ)) rfl ?_
      refine run_guard (s' := (142, [some (vR 111), g1, g2, g3, some (vL l4), none, some (vI l6), some (vI l7)], [], upS σ 129 l6.toNat (w64 ((σ 129 l6.toNat) + 1)))) hf rfl (fun hf => ?_)
      refine run_let (fun σ14 => (142, [some (vR 111), g1, g2, g3, some (vL l4), none, some (vI l6), some (vI l7)], [], σ14)) hf (fun σ14 hf => ?_)
      refine run_seg (k := 4) (s' := (149, [some (vR 111), g1, g2, g3, some (vL l4), none, some (vI l6), some (vI l7)], [vI (-1), vI l6, vR 128], σ14)) rfl ?_
      refine run_guard (s' := (150, [some (vR 111), g1, g2, g3, some (vL l4), none, some (vI l6), some (vI l7)], [], upS σ14 128 l6.toNat (-1))) hf rfl (fun hf => ?_)
      refine run_let (fun σ15 => (150, [some (vR 111), g1, g2, g3, some (vL l4), none, some (vI l6), some (vI l7)], [], σ15)) hf (fun σ15 hf => ?_)
      refine run_seg (k := 4) (s' := (156, [some (vR 111), g1, g2, g3, some (vL (w64 (l4 - 1))), none, some (vI l6), some (vI l7)], [], σ15)) rfl ?_
      refine run_let (fun x16 => (156, [some (vR 111), g1, g2, g3, some (vL x16), none, some (vI l6), some (vI l7)], [], σ15)) hf (fun x16 hf => ?_)
      refine run_seg (k := 1) (s' := (82, [some (vR 111), g1, g2, g3, some (vL x16), none, some (vI l6), some (vI l7)], [], σ15)) rfl ?_
      exact hk82 hf
theorem r_M_layNear_82 : ∀ (n : Nat) {l4 : Int} {g1 : Option xV} {g2 : Option xV} {g3 : Option xV} {g6 : Option xV} {g7 : Option xV} {σ : xSt} {r : xSt}, f_M_layNear_82 n l4 σ = some r → Run 1 12 0 kX12_layNear (82, [some (vR 111), g1, g2, g3, some (vL l4), none, g6, g7], [], σ) (tV r) := by
  intro n
  induction n with
  | zero =>
    intro _ _ _ _ _ _ _ _ h
    exact nomatch (show (none : Option (xSt)) = some _ from h)
  | succ n ih =>
    intro l4 g1 g2 g3 g6 g7 σ r hf
    unfold f_M_layNear_82 at hf
    refine run_seg (k := 4) (s' := (if 0 < xlc l4 0 then (89, [some (vR 111), g1, g2, g3, some (vL l4), none, g6, g7], [], σ) else (159, [some (vR 111), g1, g2, g3, some (vL l4), none, g6, g7], [], σ))) rfl ?_
    refine run_ite hf (fun _ hf => ?_) (fun _ hf => ?_)
    · refine run_seg (k := 4) (s' := (95, [some (vR 111), g1, g2, g3, some (vL l4), none, some (vI 0), some (vI 1)], [], σ)) rfl ?_
      exact r_M_layNear_95 (fun h => ih h) 1000000 hf
    · exact run_ret hf rfl
theorem r_M_layNear_10 : ∀ (n : Nat) {l2 : Int} {l4 : Int} {l6 : Int} {g1 : Option xV} {g7 : Option xV} {σ : xSt} {r : xSt}, f_M_layNear_10 n l2 l4 l6 σ = some r → Run 1 12 0 kX12_layNear (10, [some (vR 111), g1, some (vL l2), none, some (vL l4), none, some (vI l6), g7], [], σ) (tV r) := by
  intro n
  induction n with
  | zero =>
    intro _ _ _ _ _ _ _ h
    exact nomatch (show (none : Option (xSt)) = some _ from h)
  | succ n ih =>
    intro l2 l4 l6 g1 g7 σ r hf
    unfold f_M_layNear_10 at hf
    refine run_seg (k := 2) (s' := (13, [some (vR 111), g1, some (vL l2), none, some (vL l4), none, some (vI l6), g7], [vR 111, vI l6], σ)) rfl ?_
    refine run_callN (w := fun a => some (vI a)) (m := 246) (as := [vR 111]) (pc := 16) (ls := [some (vR 111), g1, some (vL l2), none, some (vL l4), none, some (vI l6), g7]) (st' := [vI l6]) (σ := σ) hf rfl (fun _ h => (c_M_ends h).mono (by decide)) (fun r2 hf => ?_)
    refine run_seg (k := 1) (s' := (if l6 < r2 then (19, [some (vR 111), g1, some (vL l2), none, some (vL l4), none, some (vI l6), g7], [], σ) else (82, [some (vR 111), g1, some (vL l2), none, some (vL l4), none, some (vI l6), g7], [], σ))) rfl ?_
    refine run_ite hf (fun _ hf => ?_) (fun _ hf => ?_)
    · refine run_seg (k := 6) (s' := (29, [some (vR 111), g1, some (vL l2), none, some (vL l4), none, some (vI l6), g7], [vI l6, vR 111, vL l2, vI l6, vR 129], σ)) rfl ?_
      refine run_callN (w := fun a => some (vI a)) (m := 302) (as := [vR 111, vI l6]) (pc := 32) (ls := [some (vR 111), g1, some (vL l2), none, some (vL l4), none, some (vI l6), g7]) (st' := [vL l2, vI l6, vR 129]) (σ := σ) hf rfl (fun _ h => (c_M_shareOf h).mono (by decide)) (fun r3 hf => ?_)
      refine run_seg (k := 3) (s' := (35, [some (vR 111), g1, some (vL l2), none, some (vL l4), none, some (vI l6), g7], [vR 111, vL (w64 (l2 * r3)), vI l6, vR 129], σ)) rfl ?_
      refine run_callN (w := fun a => some (vI a)) (m := 303) (as := [vR 111]) (pc := 38) (ls := [some (vR 111), g1, some (vL l2), none, some (vL l4), none, some (vI l6), g7]) (st' := [vL (w64 (l2 * r3)), vI l6, vR 129]) (σ := σ) hf rfl (fun _ h => (c_M_shareBelow h).mono (by decide)) (fun r4 hf => ?_)
      refine run_seg (k := 1) (s' := (39, [some (vR 111), g1, some (vL l2), none, some (vL l4), none, some (vI l6), g7], [vL r4, vL (w64 (l2 * r3)), vI l6, vR 129], σ)) rfl ?_
      refine run_gdiv (s' := (40, [some (vR 111), g1, some (vL l2), none, some (vL l4), none, some (vI l6), g7], [vL (xldiv (w64 (l2 * r3)) r4), vI l6, vR 129], σ)) hf rfl (fun hf => ?_)
      refine run_guard (s' := (41, [some (vR 111), g1, some (vL l2), none, some (vL l4), none, some (vI l6), g7], [], upS σ 129 l6.toNat (xldiv (w64 (l2 * r3)) r4))) hf rfl (fun hf => ?_)
      refine run_let (fun σ5 => (41, [some (vR 111), g1, some (vL l2), none, some (vL l4), none, some (vI l6), g7], [], σ5)) hf (fun σ5 hf => ?_)
      refine run_seg (k := 6) (s' := (51, [some (vR 111), g1, some (vL l2), none, some (vL l4), none, some (vI l6), g7], [vI l6, vR 111, vL l2, vI l6, vR 128], σ5)) rfl ?_
      refine run_callN (w := fun a => some (vI a)) (m := 302) (as := [vR 111, vI l6]) (pc := 54) (ls := [some (vR 111), g1, some (vL l2), none, some (vL l4), none, some (vI l6), g7]) (st' := [vL l2, vI l6, vR 128]) (σ := σ5) hf rfl (fun _ h => (c_M_shareOf h).mono (by decide)) (fun r6 hf => ?_)
      refine run_seg (k := 3) (s' := (57, [some (vR 111), g1, some (vL l2), none, some (vL l4), none, some (vI l6), g7], [vR 111, vL (w64 (l2 * r6)), vI l6, vR 128], σ5)) rfl ?_
      refine run_callN (w := fun a => some (vI a)) (m := 303) (as := [vR 111]) (pc := 60) (ls := [some (vR 111), g1, some (vL l2), none, some (vL l4), none, some (vI l6), g7]) (st' := [vL (w64 (l2 * r6)), vI l6, vR 128]) (σ := σ5) hf rfl (fun _ h => (c_M_shareBelow h).mono (by decide)) (fun r7 hf => ?_)
      refine run_seg (k := 1) (s' := (61, [some (vR 111), g1, some (vL l2), none, some (vL l4), none, some (vI l6), g7], [vL r7, vL (w64 (l2 * r6)), vI l6, vR 128], σ5)) rfl ?_
      refine run_gdiv (s' := (62, [some (vR 111), g1, some (vL l2), none, some (vL l4), none, some (vI l6), g7], [vL (xlrem (w64 (l2 * r6)) r7), vI l6, vR 128], σ5)) hf rfl (fun hf => ?_)
      refine run_seg (k := 1) (s' := (63, [some (vR 111), g1, some (vL l2), none, some (vL l4), none, some (vI l6), g7], [vI (w32 (xlrem (w64 (l2 * r6)) r7)), vI l6, vR 128], σ5)) rfl ?_
      refine run_guard (s' := (64, [some (vR 111), g1, some (vL l2), none, some (vL l4), none, some (vI l6), g7], [], upS σ5 128 l6.toNat (w32 (xlrem (w64 (l2 * r6)) r7)))) hf rfl (fun hf => ?_)
      refine run_let (fun σ8 => (64, [some (vR 111), g1, some (vL l2), none, some (vL l4), none, some (vI l6), g7], [], σ8)) hf (fun σ8 hf => ?_)
      refine run_seg (k := 4) (s' := (72, [some (vR 111), g1, some (vL l2), none, some (vL l4), none, some (vI l6), g7], [vI l6, vR 129, vL l4], σ8)) rfl ?_
      refine run_guard (s' := (73, [some (vR 111), g1, some (vL l2), none, some (vL l4), none, some (vI l6), g7], [vL (σ8 129 l6.toNat), vL l4], σ8)) hf rfl (fun hf => ?_)
      refine run_seg (k := 2) (s' := (76, [some (vR 111), g1, some (vL l2), none, some (vL (w64 (l4 - (σ8 129 l6.toNat)))), none, some (vI l6), g7], [], σ8)) rfl ?_
      refine run_let (fun x9 => (76, [some (vR 111), g1, some (vL l2), none, some (vL x9), none, some (vI l6), g7], [], σ8)) hf (fun x9 hf => ?_)
      refine run_seg (k := 1) (s' := (79, [some (vR 111), g1, some (vL l2), none, some (vL x9), none, some (vI (w32 (l6 + 1))), g7], [], σ8)) rfl ?_
      refine run_let (fun x10 => (79, [some (vR 111), g1, some (vL l2), none, some (vL x9), none, some (vI x10), g7], [], σ8)) hf (fun x10 hf => ?_)
      refine run_seg (k := 1) (s' := (10, [some (vR 111), g1, some (vL l2), none, some (vL x9), none, some (vI x10), g7], [], σ8)) rfl ?_
      exact ih hf
    · exact r_M_layNear_82 1000000 hf
theorem c_M_layNear {p1 : Int} {σ : xSt} {r : xSt} (hf : f_M_layNear p1 σ = some r) : Call (1 + 1) 311 [vR 111, vI p1] σ (tV r).1 (tV r).2 := by
  unfold f_M_layNear at hf
  refine call_of (own := 12) (rk := 0) (cd := kX12_layNear) (ls := [some (vR 111), some (vI p1), none, none, none, none, none, none]) (rT := tV) rfl rfl rfl rfl rfl ?_
  refine run_seg (k := 4) (s' := (4, [some (vR 111), some (vI p1), some (vL (xlshl 1 p1)), none, none, none, none, none], [], σ)) rfl ?_
  refine run_let (fun x1 => (4, [some (vR 111), some (vI p1), some (vL x1), none, none, none, none, none], [], σ)) hf (fun x1 hf => ?_)
  refine run_seg (k := 4) (s' := (10, [some (vR 111), some (vI p1), some (vL x1), none, some (vL x1), none, some (vI 0), none], [], σ)) rfl ?_
  exact r_M_layNear_10 1000000 hf
/-- BentPennyModel.nearest(II)I -/
def f_M_nearest (p1 : Int) (p2 : Int) (σ : xSt) : Option (Int × xSt) :=
  xlet (upS σ 111 0 0) fun σ1 =>
  xbR (f_M_lay σ1) fun σ2 =>
  xbR (f_M_isIn p1 0 20 σ2) fun r3 =>
  if r3 = 0 then (some ((-1), σ2))
  else (xbR (f_M_isEnd p2 σ2) fun r4 =>
  if r4 = 0 then (some ((-1), σ2))
  else (xbR (f_M_hasShares σ2) fun r5 =>
  if r5 = 0 then (some ((-1), σ2))
  else (xbR (f_M_layNear p1 σ2) fun σ6 =>
  if 0 ≤ p2 ∧ p2 < 6 then (
  some (w32 (σ6 129 p2.toNat), σ6)) else none)))
theorem c_M_nearest {p1 : Int} {p2 : Int} {σ : xSt} {r : Int × xSt} (hf : f_M_nearest p1 p2 σ = some r) : Call (2 + 1) 312 [vR 111, vI p1, vI p2] σ (tIW r).1 (tIW r).2 := by
  unfold f_M_nearest at hf
  refine call_of (own := 12) (rk := 1) (cd := kX12_nearest) (ls := [some (vR 111), some (vI p1), some (vI p2)]) (rT := tIW) rfl rfl rfl rfl rfl ?_
  refine run_seg (k := 3) (s' := (5, [some (vR 111), some (vI p1), some (vI p2)], [], upS σ 111 0 0)) rfl ?_
  refine run_let (fun σ1 => (5, [some (vR 111), some (vI p1), some (vI p2)], [], σ1)) hf (fun σ1 hf => ?_)
  refine run_seg (k := 1) (s' := (6, [some (vR 111), some (vI p1), some (vI p2)], [vR 111], σ1)) rfl ?_
  refine run_callV (m := 233) (as := [vR 111]) (pc := 9) (ls := [some (vR 111), some (vI p1), some (vI p2)]) (st' := []) (σ := σ1) hf rfl (fun _ h => (c_M_lay h).mono (by decide)) (fun σ2 hf => ?_)
  refine run_seg (k := 3) (s' := (13, [some (vR 111), some (vI p1), some (vI p2)], [vI 20, vI 0, vI p1], σ2)) rfl ?_
  refine run_callN (w := fun a => some (vI a)) (m := 216) (as := [vI p1, vI 0, vI 20]) (pc := 16) (ls := [some (vR 111), some (vI p1), some (vI p2)]) (st' := []) (σ := σ2) hf rfl (fun _ h => (c_M_isIn h).mono (by decide)) (fun r3 hf => ?_)
  refine run_seg (k := 1) (s' := (if r3 = 0 then (34, [some (vR 111), some (vI p1), some (vI p2)], [], σ2) else (19, [some (vR 111), some (vI p1), some (vI p2)], [], σ2))) rfl ?_
  refine run_ite hf (fun _ hf => ?_) (fun _ hf => ?_)
  · refine run_seg (k := 1) (s' := (35, [some (vR 111), some (vI p1), some (vI p2)], [vI (-1)], σ2)) rfl ?_
    exact run_ret hf rfl
  · refine run_seg (k := 2) (s' := (21, [some (vR 111), some (vI p1), some (vI p2)], [vI p2, vR 111], σ2)) rfl ?_
    refine run_callN (w := fun a => some (vI a)) (m := 248) (as := [vR 111, vI p2]) (pc := 24) (ls := [some (vR 111), some (vI p1), some (vI p2)]) (st' := []) (σ := σ2) hf rfl (fun _ h => (c_M_isEnd h).mono (by decide)) (fun r4 hf => ?_)
    refine run_seg (k := 1) (s' := (if r4 = 0 then (34, [some (vR 111), some (vI p1), some (vI p2)], [], σ2) else (27, [some (vR 111), some (vI p1), some (vI p2)], [], σ2))) rfl ?_
    refine run_ite hf (fun _ hf => ?_) (fun _ hf => ?_)
    · refine run_seg (k := 1) (s' := (35, [some (vR 111), some (vI p1), some (vI p2)], [vI (-1)], σ2)) rfl ?_
      exact run_ret hf rfl
    · refine run_seg (k := 1) (s' := (28, [some (vR 111), some (vI p1), some (vI p2)], [vR 111], σ2)) rfl ?_
      refine run_callN (w := fun a => some (vI a)) (m := 304) (as := [vR 111]) (pc := 31) (ls := [some (vR 111), some (vI p1), some (vI p2)]) (st' := []) (σ := σ2) hf rfl (fun _ h => (c_M_hasShares h).mono (by decide)) (fun r5 hf => ?_)
      refine run_seg (k := 1) (s' := (if r5 = 0 then (34, [some (vR 111), some (vI p1), some (vI p2)], [], σ2) else (36, [some (vR 111), some (vI p1), some (vI p2)], [], σ2))) rfl ?_
      refine run_ite hf (fun _ hf => ?_) (fun _ hf => ?_)
      · refine run_seg (k := 1) (s' := (35, [some (vR 111), some (vI p1), some (vI p2)], [vI (-1)], σ2)) rfl ?_
        exact run_ret hf rfl
      · refine run_seg (k := 2) (s' := (38, [some (vR 111), some (vI p1), some (vI p2)], [vI p1, vR 111], σ2)) rfl ?_
        refine run_callV (m := 311) (as := [vR 111, vI p1]) (pc := 41) (ls := [some (vR 111), some (vI p1), some (vI p2)]) (st' := []) (σ := σ2) hf rfl (fun _ h => (c_M_layNear h).mono (by decide)) (fun σ6 hf => ?_)
        refine run_seg (k := 3) (s' := (46, [some (vR 111), some (vI p1), some (vI p2)], [vI p2, vR 129], σ6)) rfl ?_
        refine run_guard (s' := (47, [some (vR 111), some (vI p1), some (vI p2)], [vL (σ6 129 p2.toNat)], σ6)) hf rfl (fun hf => ?_)
        refine run_seg (k := 1) (s' := (48, [some (vR 111), some (vI p1), some (vI p2)], [vI (w32 (σ6 129 p2.toNat))], σ6)) rfl ?_
        exact run_ret hf rfl
def f_M_off_30 (σ : xSt) : Option (Int × xSt) :=
  xbW (f_M_refuseLong σ) fun r7 σ8 =>
  some (r7, σ8)
def f_M_off_50 : Nat → Int → Int → Int → Int → xSt → Option (Int × xSt)
  | 0, _, _, _, _, _ => none
  | n + 1, l1, l2, l3, l5, σ =>
    xbR (f_M_ends σ) fun r9 =>
    if l5 < r9 then (if 0 ≤ l5 ∧ l5 < 6 then (
    xbR (f_M_shareBelow σ) fun r10 =>
    xbR (f_M_shareOf l5 σ) fun r11 =>
    xlet (w64 ((w64 ((σ 129 l5.toNat) * r10)) - (w64 ((xlshl 1 l1) * r11)))) fun x12 =>
    if xlc x12 0 < 0 then (xlet (w64 (l3 + (w64 (-x12)))) fun x13 =>
    xlet (w32 (l5 + 1)) fun x14 =>
    f_M_off_50 n l1 l2 x13 x14 σ)
    else (xlet (w64 (l3 + x12)) fun x15 =>
    xlet (w32 (l5 + 1)) fun x16 =>
    f_M_off_50 n l1 l2 x15 x16 σ)) else none)
    else (xbR (f_M_shareBelow σ) fun r17 =>
    xbR (f_M_part l3 (w64 ((w64 (2 * (xlshl 1 l1))) * r17)) l2 σ) fun r18 =>
    some (r18, σ))
/-- BentPennyModel.off(II)J -/
def f_M_off (p1 : Int) (p2 : Int) (σ : xSt) : Option (Int × xSt) :=
  xbR (f_M_lay σ) fun σ1 =>
  xbR (f_M_isIn p1 0 20 σ1) fun r2 =>
  if r2 = 0 then (f_M_off_30 σ1)
  else (xbR (f_M_isIn p2 0 1 σ1) fun r3 =>
  if r3 = 0 then (f_M_off_30 σ1)
  else (xbR (f_M_hasShares σ1) fun r4 =>
  if r4 = 0 then (f_M_off_30 σ1)
  else (xlet (upS σ1 111 0 0) fun σ5 =>
  xbR (f_M_layNear p1 σ5) fun σ6 =>
  f_M_off_50 1000000 p1 p2 0 0 σ6)))
theorem r_M_off_30 {g1 : Option xV} {g2 : Option xV} {g3 : Option xV} {g4 : Option xV} {g5 : Option xV} {g6 : Option xV} {g7 : Option xV} {σ : xSt} {r : Int × xSt} (hf : f_M_off_30 σ = some r) : Run 2 12 3 kX12_off (30, [some (vR 111), g1, g2, g3, g4, g5, g6, g7], [], σ) (tLW r) := by
  unfold f_M_off_30 at hf
  refine run_seg (k := 1) (s' := (31, [some (vR 111), g1, g2, g3, g4, g5, g6, g7], [vR 111], σ)) rfl ?_
  refine run_callW (w := fun a => some (vL a)) (m := 211) (as := [vR 111]) (pc := 34) (ls := [some (vR 111), g1, g2, g3, g4, g5, g6, g7]) (st' := []) (σ := σ) hf rfl (fun _ _ h => (c_M_refuseLong h).mono (by decide)) (fun r7 σ8 hf => ?_)
  exact run_ret hf rfl
theorem r_M_off_50 : ∀ (n : Nat) {l1 : Int} {l2 : Int} {l3 : Int} {l5 : Int} {g6 : Option xV} {g7 : Option xV} {σ : xSt} {r : Int × xSt}, f_M_off_50 n l1 l2 l3 l5 σ = some r → Run 2 12 3 kX12_off (50, [some (vR 111), some (vI l1), some (vI l2), some (vL l3), none, some (vI l5), g6, g7], [], σ) (tLW r) := by
  intro n
  induction n with
  | zero =>
    intro _ _ _ _ _ _ _ _ h
    exact nomatch (show (none : Option (Int × xSt)) = some _ from h)
  | succ n ih =>
    intro l1 l2 l3 l5 g6 g7 σ r hf
    unfold f_M_off_50 at hf
    refine run_seg (k := 2) (s' := (53, [some (vR 111), some (vI l1), some (vI l2), some (vL l3), none, some (vI l5), g6, g7], [vR 111, vI l5], σ)) rfl ?_
    refine run_callN (w := fun a => some (vI a)) (m := 246) (as := [vR 111]) (pc := 56) (ls := [some (vR 111), some (vI l1), some (vI l2), some (vL l3), none, some (vI l5), g6, g7]) (st' := [vI l5]) (σ := σ) hf rfl (fun _ h => (c_M_ends h).mono (by decide)) (fun r9 hf => ?_)
    refine run_seg (k := 1) (s' := (if l5 < r9 then (59, [some (vR 111), some (vI l1), some (vI l2), some (vL l3), none, some (vI l5), g6, g7], [], σ) else (110, [some (vR 111), some (vI l1), some (vI l2), some (vL l3), none, some (vI l5), g6, g7], [], σ))) rfl ?_
    refine run_ite hf (fun _ hf => ?_) (fun _ hf => ?_)
    · refine run_seg (k := 3) (s' := (65, [some (vR 111), some (vI l1), some (vI l2), some (vL l3), none, some (vI l5), g6, g7], [vI l5, vR 129], σ)) rfl ?_
      refine run_guard (s' := (66, [some (vR 111), some (vI l1), some (vI l2), some (vL l3), none, some (vI l5), g6, g7], [vL (σ 129 l5.toNat)], σ)) hf rfl (fun hf => ?_)
      refine run_seg (k := 1) (s' := (67, [some (vR 111), some (vI l1), some (vI l2), some (vL l3), none, some (vI l5), g6, g7], [vR 111, vL (σ 129 l5.toNat)], σ)) rfl ?_
      refine run_callN (w := fun a => some (vI a)) (m := 303) (as := [vR 111]) (pc := 70) (ls := [some (vR 111), some (vI l1), some (vI l2), some (vL l3), none, some (vI l5), g6, g7]) (st' := [vL (σ 129 l5.toNat)]) (σ := σ) hf rfl (fun _ h => (c_M_shareBelow h).mono (by decide)) (fun r10 hf => ?_)
      refine run_seg (k := 7) (s' := (78, [some (vR 111), some (vI l1), some (vI l2), some (vL l3), none, some (vI l5), g6, g7], [vI l5, vR 111, vL (xlshl 1 l1), vL (w64 ((σ 129 l5.toNat) * r10))], σ)) rfl ?_
      refine run_callN (w := fun a => some (vI a)) (m := 302) (as := [vR 111, vI l5]) (pc := 81) (ls := [some (vR 111), some (vI l1), some (vI l2), some (vL l3), none, some (vI l5), g6, g7]) (st' := [vL (xlshl 1 l1), vL (w64 ((σ 129 l5.toNat) * r10))]) (σ := σ) hf rfl (fun _ h => (c_M_shareOf h).mono (by decide)) (fun r11 hf => ?_)
      refine run_seg (k := 4) (s' := (86, [some (vR 111), some (vI l1), some (vI l2), some (vL l3), none, some (vI l5), some (vL (w64 ((w64 ((σ 129 l5.toNat) * r10)) - (w64 ((xlshl 1 l1) * r11))))), none], [], σ)) rfl ?_
      refine run_let (fun x12 => (86, [some (vR 111), some (vI l1), some (vI l2), some (vL l3), none, some (vI l5), some (vL x12), none], [], σ)) hf (fun x12 hf => ?_)
      refine run_seg (k := 5) (s' := (if xlc x12 0 < 0 then (94, [some (vR 111), some (vI l1), some (vI l2), some (vL l3), none, some (vI l5), some (vL x12), none], [vL l3], σ) else (100, [some (vR 111), some (vI l1), some (vI l2), some (vL l3), none, some (vI l5), some (vL x12), none], [vL l3], σ))) rfl ?_
      refine run_ite hf (fun _ hf => ?_) (fun _ hf => ?_)
      · refine run_seg (k := 5) (s' := (104, [some (vR 111), some (vI l1), some (vI l2), some (vL (w64 (l3 + (w64 (-x12))))), none, some (vI l5), some (vL x12), none], [], σ)) rfl ?_
        refine run_let (fun x13 => (104, [some (vR 111), some (vI l1), some (vI l2), some (vL x13), none, some (vI l5), some (vL x12), none], [], σ)) hf (fun x13 hf => ?_)
        refine run_seg (k := 1) (s' := (107, [some (vR 111), some (vI l1), some (vI l2), some (vL x13), none, some (vI (w32 (l5 + 1))), some (vL x12), none], [], σ)) rfl ?_
        refine run_let (fun x14 => (107, [some (vR 111), some (vI l1), some (vI l2), some (vL x13), none, some (vI x14), some (vL x12), none], [], σ)) hf (fun x14 hf => ?_)
        refine run_seg (k := 1) (s' := (50, [some (vR 111), some (vI l1), some (vI l2), some (vL x13), none, some (vI x14), some (vL x12), none], [], σ)) rfl ?_
        exact ih hf
      · refine run_seg (k := 3) (s' := (104, [some (vR 111), some (vI l1), some (vI l2), some (vL (w64 (l3 + x12))), none, some (vI l5), some (vL x12), none], [], σ)) rfl ?_
        refine run_let (fun x15 => (104, [some (vR 111), some (vI l1), some (vI l2), some (vL x15), none, some (vI l5), some (vL x12), none], [], σ)) hf (fun x15 hf => ?_)
        refine run_seg (k := 1) (s' := (107, [some (vR 111), some (vI l1), some (vI l2), some (vL x15), none, some (vI (w32 (l5 + 1))), some (vL x12), none], [], σ)) rfl ?_
        refine run_let (fun x16 => (107, [some (vR 111), some (vI l1), some (vI l2), some (vL x15), none, some (vI x16), some (vL x12), none], [], σ)) hf (fun x16 hf => ?_)
        refine run_seg (k := 1) (s' := (50, [some (vR 111), some (vI l1), some (vI l2), some (vL x15), none, some (vI x16), some (vL x12), none], [], σ)) rfl ?_
        exact ih hf
    · refine run_seg (k := 7) (s' := (119, [some (vR 111), some (vI l1), some (vI l2), some (vL l3), none, some (vI l5), g6, g7], [vR 111, vL (w64 (2 * (xlshl 1 l1))), vL l3], σ)) rfl ?_
      refine run_callN (w := fun a => some (vI a)) (m := 303) (as := [vR 111]) (pc := 122) (ls := [some (vR 111), some (vI l1), some (vI l2), some (vL l3), none, some (vI l5), g6, g7]) (st' := [vL (w64 (2 * (xlshl 1 l1))), vL l3]) (σ := σ) hf rfl (fun _ h => (c_M_shareBelow h).mono (by decide)) (fun r17 hf => ?_)
      refine run_seg (k := 3) (s' := (125, [some (vR 111), some (vI l1), some (vI l2), some (vL l3), none, some (vI l5), g6, g7], [vI l2, vL (w64 ((w64 (2 * (xlshl 1 l1))) * r17)), vL l3], σ)) rfl ?_
      refine run_callN (w := fun a => some (vL a)) (m := 219) (as := [vL l3, vL (w64 ((w64 (2 * (xlshl 1 l1))) * r17)), vI l2]) (pc := 128) (ls := [some (vR 111), some (vI l1), some (vI l2), some (vL l3), none, some (vI l5), g6, g7]) (st' := []) (σ := σ) hf rfl (fun _ h => (c_M_part h).mono (by decide)) (fun r18 hf => ?_)
      exact run_ret hf rfl
theorem c_M_off {p1 : Int} {p2 : Int} {σ : xSt} {r : Int × xSt} (hf : f_M_off p1 p2 σ = some r) : Call (2 + 1) 313 [vR 111, vI p1, vI p2] σ (tLW r).1 (tLW r).2 := by
  unfold f_M_off at hf
  refine call_of (own := 12) (rk := 3) (cd := kX12_off) (ls := [some (vR 111), some (vI p1), some (vI p2), none, none, none, none, none]) (rT := tLW) rfl rfl rfl rfl rfl ?_
  refine run_seg (k := 1) (s' := (1, [some (vR 111), some (vI p1), some (vI p2), none, none, none, none, none], [vR 111], σ)) rfl ?_
  refine run_callV (m := 233) (as := [vR 111]) (pc := 4) (ls := [some (vR 111), some (vI p1), some (vI p2), none, none, none, none, none]) (st' := []) (σ := σ) hf rfl (fun _ h => (c_M_lay h).mono (by decide)) (fun σ1 hf => ?_)
  refine run_seg (k := 3) (s' := (8, [some (vR 111), some (vI p1), some (vI p2), none, none, none, none, none], [vI 20, vI 0, vI p1], σ1)) rfl ?_
  refine run_callN (w := fun a => some (vI a)) (m := 216) (as := [vI p1, vI 0, vI 20]) (pc := 11) (ls := [some (vR 111), some (vI p1), some (vI p2), none, none, none, none, none]) (st' := []) (σ := σ1) hf rfl (fun _ h => (c_M_isIn h).mono (by decide)) (fun r2 hf => ?_)
  refine run_seg (k := 1) (s' := (if r2 = 0 then (30, [some (vR 111), some (vI p1), some (vI p2), none, none, none, none, none], [], σ1) else (14, [some (vR 111), some (vI p1), some (vI p2), none, none, none, none, none], [], σ1))) rfl ?_
  refine run_ite hf (fun _ hf => ?_) (fun _ hf => ?_)
  · exact r_M_off_30 hf
  · refine run_seg (k := 3) (s' := (17, [some (vR 111), some (vI p1), some (vI p2), none, none, none, none, none], [vI 1, vI 0, vI p2], σ1)) rfl ?_
    refine run_callN (w := fun a => some (vI a)) (m := 216) (as := [vI p2, vI 0, vI 1]) (pc := 20) (ls := [some (vR 111), some (vI p1), some (vI p2), none, none, none, none, none]) (st' := []) (σ := σ1) hf rfl (fun _ h => (c_M_isIn h).mono (by decide)) (fun r3 hf => ?_)
    refine run_seg (k := 1) (s' := (if r3 = 0 then (30, [some (vR 111), some (vI p1), some (vI p2), none, none, none, none, none], [], σ1) else (23, [some (vR 111), some (vI p1), some (vI p2), none, none, none, none, none], [], σ1))) rfl ?_
    refine run_ite hf (fun _ hf => ?_) (fun _ hf => ?_)
    · exact r_M_off_30 hf
    · refine run_seg (k := 1) (s' := (24, [some (vR 111), some (vI p1), some (vI p2), none, none, none, none, none], [vR 111], σ1)) rfl ?_
      refine run_callN (w := fun a => some (vI a)) (m := 304) (as := [vR 111]) (pc := 27) (ls := [some (vR 111), some (vI p1), some (vI p2), none, none, none, none, none]) (st' := []) (σ := σ1) hf rfl (fun _ h => (c_M_hasShares h).mono (by decide)) (fun r4 hf => ?_)
      refine run_seg (k := 1) (s' := (if r4 = 0 then (30, [some (vR 111), some (vI p1), some (vI p2), none, none, none, none, none], [], σ1) else (35, [some (vR 111), some (vI p1), some (vI p2), none, none, none, none, none], [], σ1))) rfl ?_
      refine run_ite hf (fun _ hf => ?_) (fun _ hf => ?_)
      · exact r_M_off_30 hf
      · refine run_seg (k := 3) (s' := (40, [some (vR 111), some (vI p1), some (vI p2), none, none, none, none, none], [], upS σ1 111 0 0)) rfl ?_
        refine run_let (fun σ5 => (40, [some (vR 111), some (vI p1), some (vI p2), none, none, none, none, none], [], σ5)) hf (fun σ5 hf => ?_)
        refine run_seg (k := 2) (s' := (42, [some (vR 111), some (vI p1), some (vI p2), none, none, none, none, none], [vI p1, vR 111], σ5)) rfl ?_
        refine run_callV (m := 311) (as := [vR 111, vI p1]) (pc := 45) (ls := [some (vR 111), some (vI p1), some (vI p2), none, none, none, none, none]) (st' := []) (σ := σ5) hf rfl (fun _ h => (c_M_layNear h).mono (by decide)) (fun σ6 hf => ?_)
        refine run_seg (k := 4) (s' := (50, [some (vR 111), some (vI p1), some (vI p2), some (vL 0), none, some (vI 0), none, none], [], σ6)) rfl ?_
        exact r_M_off_50 1000000 hf
/-- BentPennyModel.has(II)Z -/
def f_M_has (p0 : Int) (p1 : Int) (σ : xSt) : Option (Int) :=
  if xand (xshr p0 p1) 1 = 1 then (some 1)
  else (some 0)
theorem c_M_has {p0 : Int} {p1 : Int} {σ : xSt} {r : Int} (hf : f_M_has p0 p1 σ = some r) : Call (0 + 1) 217 [vI p0, vI p1] σ ((tI σ) r).1 ((tI σ) r).2 := by
  unfold f_M_has at hf
  refine call_of (own := 12) (rk := 2) (cd := kX12_has) (ls := [some (vI p0), some (vI p1)]) (rT := (tI σ)) rfl rfl rfl rfl rfl ?_
  refine run_seg (k := 7) (s' := (if xand (xshr p0 p1) 1 = 1 then (9, [some (vI p0), some (vI p1)], [], σ) else (13, [some (vI p0), some (vI p1)], [], σ))) rfl ?_
  refine run_ite hf (fun _ hf => ?_) (fun _ hf => ?_)
  · refine run_seg (k := 2) (s' := (14, [some (vI p0), some (vI p1)], [vI 1], σ)) rfl ?_
    exact run_ret hf rfl
  · refine run_seg (k := 1) (s' := (14, [some (vI p0), some (vI p1)], [vI 0], σ)) rfl ?_
    exact run_ret hf rfl
def f_M_mixed_29 (σ : xSt) : Option (Int × xSt) :=
  xbW (f_M_refuseLong σ) fun r5 σ6 =>
  some (r5, σ6)
def f_M_mixed_91 (σ : xSt) : Option (Int × xSt) :=
  xbW (f_M_refuseLong σ) fun r15 σ16 =>
  some (r15, σ16)
def f_M_mixed_96 (k40 : (Int → Int → Int → Int → Int → xSt → Option (Int × xSt))) (l1 : Int) (l2 : Int) (l3 : Int) (l5 : Int) (σ : xSt) : Option (Int × xSt) :=
  xbR (f_M_sidesOf l5 σ) fun r17 =>
  xlet (w32 (l5 + 1)) fun x18 =>
  k40 l1 l2 l3 r17 x18 σ
def f_M_mixed_164 (k141 : (Int → Int → Int → Int → Int → Int → xSt → Option (Int × xSt))) (l1 : Int) (l2 : Int) (l3 : Int) (l4 : Int) (l5 : Int) (l7 : Int) (s0 : Int) (s1 : Int) (σ : xSt) : Option (Int × xSt) :=
  if 0 ≤ s1 ∧ s1 < 6 then (
  xlet (upS σ 130 s1.toNat s0) fun σ19 =>
  xlet (w32 (l7 + 1)) fun x20 =>
  k141 l1 l2 l3 l4 l5 x20 σ19) else none
def f_M_mixed_232 (k174 : (Int → Int → Int → Int → Int → Int → xSt → Option (Int × xSt))) (k222 : (Int → Int → Int → Int → Int → Int → Int → xSt → Option (Int × xSt))) : Nat → Int → Int → Int → Int → Int → Int → Int → Int → xSt → Option (Int × xSt)
  | 0, _, _, _, _, _, _, _, _, _ => none
  | n + 1, l1, l2, l3, l4, l5, l7, l8, l9, σ =>
    if l9 < l4 then (if l4 = 0 then none else
    if 0 ≤ xrem (w32 (l8 + l9)) l4 ∧ xrem (w32 (l8 + l9)) l4 < 6 then (
    if 0 ≤ l8 ∧ l8 < 6 then (
    xbR (f_M_sideOf l7 l9 σ) fun r27 =>
    if 0 ≤ xrem (w32 (l8 + l9)) l4 ∧ xrem (w32 (l8 + l9)) l4 < 6 then (
    xlet (upS σ 131 (xrem (w32 (l8 + l9)) l4).toNat (w64 ((σ 131 (xrem (w32 (l8 + l9)) l4).toNat) + (w64 ((σ 130 l8.toNat) * r27))))) fun σ28 =>
    xlet (w32 (l9 + 1)) fun x29 =>
    f_M_mixed_232 k174 k222 n l1 l2 l3 l4 l5 l7 l8 x29 σ28) else none) else none) else none)
    else (xlet (w32 (l8 + 1)) fun x30 =>
    k222 l1 l2 l3 l4 l5 l7 x30 σ)
def f_M_mixed_290 (k174 : (Int → Int → Int → Int → Int → Int → xSt → Option (Int × xSt))) : Nat → Int → Int → Int → Int → Int → Int → Int → xSt → Option (Int × xSt)
  | 0, _, _, _, _, _, _, _, _ => none
  | n + 1, l1, l2, l3, l4, l5, l7, l8, σ =>
    if l8 < l4 then (if 0 ≤ l8 ∧ l8 < 6 then (
    if 0 ≤ l8 ∧ l8 < 6 then (
    xlet (upS σ 130 l8.toNat (σ 131 l8.toNat)) fun σ31 =>
    xlet (w32 (l8 + 1)) fun x32 =>
    f_M_mixed_290 k174 n l1 l2 l3 l4 l5 l7 x32 σ31) else none) else none)
    else (xbR (f_M_partsOf l7 σ) fun r33 =>
    xlet (w64 (l5 * r33)) fun x34 =>
    xlet (w32 (l7 + 1)) fun x35 =>
    k174 l1 l2 l3 l4 x34 x35 σ)
def f_M_mixed_222 (k174 : (Int → Int → Int → Int → Int → Int → xSt → Option (Int × xSt))) : Nat → Int → Int → Int → Int → Int → Int → Int → xSt → Option (Int × xSt)
  | 0, _, _, _, _, _, _, _, _ => none
  | n + 1, l1, l2, l3, l4, l5, l7, l8, σ =>
    if l8 < l4 then (f_M_mixed_232 (k174) (fun z0 z1 z2 z3 z4 z5 z6 sz => f_M_mixed_222 k174 n z0 z1 z2 z3 z4 z5 z6 sz) 1000000 l1 l2 l3 l4 l5 l7 l8 0 σ)
    else (f_M_mixed_290 (k174) 1000000 l1 l2 l3 l4 l5 l7 0 σ)
def f_M_mixed_198 (k174 : (Int → Int → Int → Int → Int → Int → xSt → Option (Int × xSt))) : Nat → Int → Int → Int → Int → Int → Int → Int → xSt → Option (Int × xSt)
  | 0, _, _, _, _, _, _, _, _ => none
  | n + 1, l1, l2, l3, l4, l5, l7, l8, σ =>
    if l8 < l4 then (if 0 ≤ l8 ∧ l8 < 6 then (
    xlet (upS σ 131 l8.toNat 0) fun σ25 =>
    xlet (w32 (l8 + 1)) fun x26 =>
    f_M_mixed_198 k174 n l1 l2 l3 l4 l5 l7 x26 σ25) else none)
    else (f_M_mixed_222 (k174) 1000000 l1 l2 l3 l4 l5 l7 0 σ)
def f_M_mixed_174 : Nat → Int → Int → Int → Int → Int → Int → xSt → Option (Int × xSt)
  | 0, _, _, _, _, _, _, _ => none
  | n + 1, l1, l2, l3, l4, l5, l7, σ =>
    xbR (f_M_things σ) fun r21 =>
    if l7 < r21 then (xbR (f_M_has l1 l7 σ) fun r22 =>
    if r22 = 0 then (xlet (w32 (l7 + 1)) fun x23 =>
    f_M_mixed_174 n l1 l2 l3 l4 l5 x23 σ)
    else (f_M_mixed_198 (fun z0 z1 z2 z3 z4 z5 sz => f_M_mixed_174 n z0 z1 z2 z3 z4 z5 sz) 1000000 l1 l2 l3 l4 l5 l7 0 σ))
    else (if 0 ≤ l2 ∧ l2 < 6 then (
    xbR (f_M_part (σ 130 l2.toNat) l5 l3 σ) fun r24 =>
    some (r24, σ)) else none)
def f_M_mixed_141 : Nat → Int → Int → Int → Int → Int → Int → xSt → Option (Int × xSt)
  | 0, _, _, _, _, _, _, _ => none
  | n + 1, l1, l2, l3, l4, l5, l7, σ =>
    if l7 < l4 then (if l7 = 0 then (f_M_mixed_164 (fun z0 z1 z2 z3 z4 z5 sz => f_M_mixed_141 n z0 z1 z2 z3 z4 z5 sz) l1 l2 l3 l4 l5 l7 1 l7 σ)
    else (f_M_mixed_164 (fun z0 z1 z2 z3 z4 z5 sz => f_M_mixed_141 n z0 z1 z2 z3 z4 z5 sz) l1 l2 l3 l4 l5 l7 0 l7 σ))
    else (f_M_mixed_174 1000000 l1 l2 l3 l4 l5 0 σ)
def f_M_mixed_40 : Nat → Int → Int → Int → Int → Int → xSt → Option (Int × xSt)
  | 0, _, _, _, _, _, _ => none
  | n + 1, l1, l2, l3, l4, l5, σ =>
    xbR (f_M_things σ) fun r7 =>
    if l5 < r7 then (xbR (f_M_has l1 l5 σ) fun r8 =>
    if r8 = 0 then (xlet (w32 (l5 + 1)) fun x9 =>
    f_M_mixed_40 n l1 l2 l3 l4 x9 σ)
    else (if l5 = σ 113 2 then (f_M_mixed_91 σ)
    else (if 0 < l4 then (xbR (f_M_sidesOf l5 σ) fun r10 =>
    if l4 = r10 then (f_M_mixed_96 (fun z0 z1 z2 z3 z4 sz => f_M_mixed_40 n z0 z1 z2 z3 z4 sz) l1 l2 l3 l5 σ)
    else (f_M_mixed_91 σ))
    else (f_M_mixed_96 (fun z0 z1 z2 z3 z4 sz => f_M_mixed_40 n z0 z1 z2 z3 z4 sz) l1 l2 l3 l5 σ))))
    else (xbR (f_M_isIn l2 0 (w32 (l4 - 1)) σ) fun r11 =>
    if r11 = 0 then (xbW (f_M_refuseLong σ) fun r12 σ13 =>
    some (r12, σ13))
    else (xlet (upS σ 111 0 0) fun σ14 =>
    f_M_mixed_141 1000000 l1 l2 l3 l4 1 0 σ14))
/-- BentPennyModel.mixed(III)J -/
def f_M_mixed (p1 : Int) (p2 : Int) (p3 : Int) (σ : xSt) : Option (Int × xSt) :=
  xbR (f_M_lay σ) fun σ1 =>
  xbR (f_M_things σ1) fun r2 =>
  xbR (f_M_isIn p1 1 (w32 ((xshl 1 r2) - 1)) σ1) fun r3 =>
  if r3 = 0 then (f_M_mixed_29 σ1)
  else (xbR (f_M_isIn p3 0 1 σ1) fun r4 =>
  if r4 = 0 then (f_M_mixed_29 σ1)
  else (f_M_mixed_40 1000000 p1 p2 p3 0 0 σ1))
theorem r_M_mixed_29 {g1 : Option xV} {g2 : Option xV} {g3 : Option xV} {g4 : Option xV} {g5 : Option xV} {g6 : Option xV} {g7 : Option xV} {g8 : Option xV} {g9 : Option xV} {σ : xSt} {r : Int × xSt} (hf : f_M_mixed_29 σ = some r) : Run 2 12 3 kX12_mixed (29, [some (vR 111), g1, g2, g3, g4, g5, g6, g7, g8, g9], [], σ) (tLW r) := by
  unfold f_M_mixed_29 at hf
  refine run_seg (k := 1) (s' := (30, [some (vR 111), g1, g2, g3, g4, g5, g6, g7, g8, g9], [vR 111], σ)) rfl ?_
  refine run_callW (w := fun a => some (vL a)) (m := 211) (as := [vR 111]) (pc := 33) (ls := [some (vR 111), g1, g2, g3, g4, g5, g6, g7, g8, g9]) (st' := []) (σ := σ) hf rfl (fun _ _ h => (c_M_refuseLong h).mono (by decide)) (fun r5 σ6 hf => ?_)
  exact run_ret hf rfl
theorem r_M_mixed_91 {g1 : Option xV} {g2 : Option xV} {g3 : Option xV} {g4 : Option xV} {g5 : Option xV} {g6 : Option xV} {g7 : Option xV} {g8 : Option xV} {g9 : Option xV} {σ : xSt} {r : Int × xSt} (hf : f_M_mixed_91 σ = some r) : Run 2 12 3 kX12_mixed (91, [some (vR 111), g1, g2, g3, g4, g5, g6, g7, g8, g9], [], σ) (tLW r) := by
  unfold f_M_mixed_91 at hf
  refine run_seg (k := 1) (s' := (92, [some (vR 111), g1, g2, g3, g4, g5, g6, g7, g8, g9], [vR 111], σ)) rfl ?_
  refine run_callW (w := fun a => some (vL a)) (m := 211) (as := [vR 111]) (pc := 95) (ls := [some (vR 111), g1, g2, g3, g4, g5, g6, g7, g8, g9]) (st' := []) (σ := σ) hf rfl (fun _ _ h => (c_M_refuseLong h).mono (by decide)) (fun r15 σ16 hf => ?_)
  exact run_ret hf rfl
theorem r_M_mixed_96 {k40 : (Int → Int → Int → Int → Int → xSt → Option (Int × xSt))} (hk40 : ∀ {l1 : Int} {l2 : Int} {l3 : Int} {l4 : Int} {l5 : Int} {g6 : Option xV} {g7 : Option xV} {g8 : Option xV} {g9 : Option xV} {σ : xSt} {r : Int × xSt}, k40 l1 l2 l3 l4 l5 σ = some r → Run 2 12 3 kX12_mixed (40, [some (vR 111), some (vI l1), some (vI l2), some (vI l3), some (vI l4), some (vI l5), g6, g7, g8, g9], [], σ) (tLW r)) {l1 : Int} {l2 : Int} {l3 : Int} {l5 : Int} {g4 : Option xV} {g6 : Option xV} {g7 : Option xV} {g8 : Option xV} {g9 : Option xV} {σ : xSt} {r : Int × xSt} (hf : f_M_mixed_96 k40 l1 l2 l3 l5 σ = some r) : Run 2 12 3 kX12_mixed (96, [some (vR 111), some (vI l1), some (vI l2), some (vI l3), g4, some (vI l5), g6, g7, g8, g9], [], σ) (tLW r) := by
  unfold f_M_mixed_96 at hf
  refine run_seg (k := 3) (s' := (102, [some (vR 111), some (vI l1), some (vI l2), some (vI l3), g4, some (vI l5), g6, g7, g8, g9], [vI l5, vR 113], σ)) rfl ?_
  refine run_callN (w := fun a => some (vI a)) (m := 234) (as := [vR 113, vI l5]) (pc := 105) (ls := [some (vR 111), some (vI l1), some (vI l2), some (vI l3), g4, some (vI l5), g6, g7, g8, g9]) (st' := []) (σ := σ) hf rfl (fun _ h => (c_M_sidesOf h).mono (by decide)) (fun r17 hf => ?_)
  refine run_seg (k := 2) (s' := (110, [some (vR 111), some (vI l1), some (vI l2), some (vI l3), some (vI r17), some (vI (w32 (l5 + 1))), g6, g7, g8, g9], [], σ)) rfl ?_
  refine run_let (fun x18 => (110, [some (vR 111), some (vI l1), some (vI l2), some (vI l3), some (vI r17), some (vI x18), g6, g7, g8, g9], [], σ)) hf (fun x18 hf => ?_)
  refine run_seg (k := 1) (s' := (40, [some (vR 111), some (vI l1), some (vI l2), some (vI l3), some (vI r17), some (vI x18), g6, g7, g8, g9], [], σ)) rfl ?_
  exact hk40 hf
theorem r_M_mixed_164 {k141 : (Int → Int → Int → Int → Int → Int → xSt → Option (Int × xSt))} (hk141 : ∀ {l1 : Int} {l2 : Int} {l3 : Int} {l4 : Int} {l5 : Int} {l7 : Int} {g8 : Option xV} {g9 : Option xV} {σ : xSt} {r : Int × xSt}, k141 l1 l2 l3 l4 l5 l7 σ = some r → Run 2 12 3 kX12_mixed (141, [some (vR 111), some (vI l1), some (vI l2), some (vI l3), some (vI l4), some (vL l5), none, some (vI l7), g8, g9], [], σ) (tLW r)) {l1 : Int} {l2 : Int} {l3 : Int} {l4 : Int} {l5 : Int} {l7 : Int} {s0 : Int} {s1 : Int} {g8 : Option xV} {g9 : Option xV} {σ : xSt} {r : Int × xSt} (hf : f_M_mixed_164 k141 l1 l2 l3 l4 l5 l7 s0 s1 σ = some r) : Run 2 12 3 kX12_mixed (164, [some (vR 111), some (vI l1), some (vI l2), some (vI l3), some (vI l4), some (vL l5), none, some (vI l7), g8, g9], [vL s0, vI s1, vR 130], σ) (tLW r) := by
  unfold f_M_mixed_164 at hf
  refine run_guard (s' := (165, [some (vR 111), some (vI l1), some (vI l2), some (vI l3), some (vI l4), some (vL l5), none, some (vI l7), g8, g9], [], upS σ 130 s1.toNat s0)) hf rfl (fun hf => ?_)
  refine run_let (fun σ19 => (165, [some (vR 111), some (vI l1), some (vI l2), some (vI l3), some (vI l4), some (vL l5), none, some (vI l7), g8, g9], [], σ19)) hf (fun σ19 hf => ?_)
  refine run_seg (k := 1) (s' := (168, [some (vR 111), some (vI l1), some (vI l2), some (vI l3), some (vI l4), some (vL l5), none, some (vI (w32 (l7 + 1))), g8, g9], [], σ19)) rfl ?_
  refine run_let (fun x20 => (168, [some (vR 111), some (vI l1), some (vI l2), some (vI l3), some (vI l4), some (vL l5), none, some (vI x20), g8, g9], [], σ19)) hf (fun x20 hf => ?_)
  refine run_seg (k := 1) (s' := (141, [some (vR 111), some (vI l1), some (vI l2), some (vI l3), some (vI l4), some (vL l5), none, some (vI x20), g8, g9], [], σ19)) rfl ?_
  exact hk141 hf
theorem r_M_mixed_232 {k174 : (Int → Int → Int → Int → Int → Int → xSt → Option (Int × xSt))} (hk174 : ∀ {l1 : Int} {l2 : Int} {l3 : Int} {l4 : Int} {l5 : Int} {l7 : Int} {g8 : Option xV} {g9 : Option xV} {σ : xSt} {r : Int × xSt}, k174 l1 l2 l3 l4 l5 l7 σ = some r → Run 2 12 3 kX12_mixed (174, [some (vR 111), some (vI l1), some (vI l2), some (vI l3), some (vI l4), some (vL l5), none, some (vI l7), g8, g9], [], σ) (tLW r)) {k222 : (Int → Int → Int → Int → Int → Int → Int → xSt → Option (Int × xSt))} (hk222 : ∀ {l1 : Int} {l2 : Int} {l3 : Int} {l4 : Int} {l5 : Int} {l7 : Int} {l8 : Int} {g9 : Option xV} {σ : xSt} {r : Int × xSt}, k222 l1 l2 l3 l4 l5 l7 l8 σ = some r → Run 2 12 3 kX12_mixed (222, [some (vR 111), some (vI l1), some (vI l2), some (vI l3), some (vI l4), some (vL l5), none, some (vI l7), some (vI l8), g9], [], σ) (tLW r)) : ∀ (n : Nat) {l1 : Int} {l2 : Int} {l3 : Int} {l4 : Int} {l5 : Int} {l7 : Int} {l8 : Int} {l9 : Int} {σ : xSt} {r : Int × xSt}, f_M_mixed_232 k174 k222 n l1 l2 l3 l4 l5 l7 l8 l9 σ = some r → Run 2 12 3 kX12_mixed (232, [some (vR 111), some (vI l1), some (vI l2), some (vI l3), some (vI l4), some (vL l5), none, some (vI l7), some (vI l8), some (vI l9)], [], σ) (tLW r) := by
  intro n
  induction n with
  | zero =>
    intro _ _ _ _ _ _ _ _ _ _ h
    exact nomatch (show (none : Option (Int × xSt)) = some _ from h)
  | succ n ih =>
    intro l1 l2 l3 l4 l5 l7 l8 l9 σ r hf
    unfold f_M_mixed_232 at hf
    refine run_seg (k := 3) (s' := (if l9 < l4 then (239, [some (vR 111), some (vI l1), some (vI l2), some (vI l3), some (vI l4), some (vL l5), none, some (vI l7), some (vI l8), some (vI l9)], [], σ) else (281, [some (vR 111), some (vI l1), some (vI l2), some (vI l3), some (vI l4), some (vL l5), none, some (vI l7), some (vI l8), some (vI l9)], [], σ))) rfl ?_
    refine run_ite hf (fun _ hf => ?_) (fun _ hf => ?_)
    · refine run_seg (k := 6) (s' := (250, [some (vR 111), some (vI l1), some (vI l2), some (vI l3), some (vI l4), some (vL l5), none, some (vI l7), some (vI l8), some (vI l9)], [vI l4, vI (w32 (l8 + l9)), vR 131], σ)) rfl ?_
      refine run_gdiv (s' := (251, [some (vR 111), some (vI l1), some (vI l2), some (vI l3), some (vI l4), some (vL l5), none, some (vI l7), some (vI l8), some (vI l9)], [vI (xrem (w32 (l8 + l9)) l4), vR 131], σ)) hf rfl (fun hf => ?_)
      refine run_seg (k := 1) (s' := (252, [some (vR 111), some (vI l1), some (vI l2), some (vI l3), some (vI l4), some (vL l5), none, some (vI l7), some (vI l8), some (vI l9)], [vI (xrem (w32 (l8 + l9)) l4), vR 131, vI (xrem (w32 (l8 + l9)) l4), vR 131], σ)) rfl ?_
      refine run_guard (s' := (253, [some (vR 111), some (vI l1), some (vI l2), some (vI l3), some (vI l4), some (vL l5), none, some (vI l7), some (vI l8), some (vI l9)], [vL (σ 131 (xrem (w32 (l8 + l9)) l4).toNat), vI (xrem (w32 (l8 + l9)) l4), vR 131], σ)) hf rfl (fun hf => ?_)
      refine run_seg (k := 3) (s' := (259, [some (vR 111), some (vI l1), some (vI l2), some (vI l3), some (vI l4), some (vL l5), none, some (vI l7), some (vI l8), some (vI l9)], [vI l8, vR 130, vL (σ 131 (xrem (w32 (l8 + l9)) l4).toNat), vI (xrem (w32 (l8 + l9)) l4), vR 131], σ)) rfl ?_
      refine run_guard (s' := (260, [some (vR 111), some (vI l1), some (vI l2), some (vI l3), some (vI l4), some (vL l5), none, some (vI l7), some (vI l8), some (vI l9)], [vL (σ 130 l8.toNat), vL (σ 131 (xrem (w32 (l8 + l9)) l4).toNat), vI (xrem (w32 (l8 + l9)) l4), vR 131], σ)) hf rfl (fun hf => ?_)
      refine run_seg (k := 4) (s' := (268, [some (vR 111), some (vI l1), some (vI l2), some (vI l3), some (vI l4), some (vL l5), none, some (vI l7), some (vI l8), some (vI l9)], [vI l9, vI l7, vR 113, vL (σ 130 l8.toNat), vL (σ 131 (xrem (w32 (l8 + l9)) l4).toNat), vI (xrem (w32 (l8 + l9)) l4), vR 131], σ)) rfl ?_
      refine run_callN (w := fun a => some (vI a)) (m := 236) (as := [vR 113, vI l7, vI l9]) (pc := 271) (ls := [some (vR 111), some (vI l1), some (vI l2), some (vI l3), some (vI l4), some (vL l5), none, some (vI l7), some (vI l8), some (vI l9)]) (st' := [vL (σ 130 l8.toNat), vL (σ 131 (xrem (w32 (l8 + l9)) l4).toNat), vI (xrem (w32 (l8 + l9)) l4), vR 131]) (σ := σ) hf rfl (fun _ h => (c_M_sideOf h).mono (by decide)) (fun r27 hf => ?_)
      refine run_seg (k := 3) (s' := (274, [some (vR 111), some (vI l1), some (vI l2), some (vI l3), some (vI l4), some (vL l5), none, some (vI l7), some (vI l8), some (vI l9)], [vL (w64 ((σ 131 (xrem (w32 (l8 + l9)) l4).toNat) + (w64 ((σ 130 l8.toNat) * r27)))), vI (xrem (w32 (l8 + l9)) l4), vR 131], σ)) rfl ?_
      refine run_guard (s' := (275, [some (vR 111), some (vI l1), some (vI l2), some (vI l3), some (vI l4), some (vL l5), none, some (vI l7), some (vI l8), some (vI l9)], [], upS σ 131 (xrem (w32 (l8 + l9)) l4).toNat (w64 ((σ 131 (xrem (w32 (l8 + l9)) l4).toNat) + (w64 ((σ 130 l8.toNat) * r27)))))) hf rfl (fun hf => ?_)
      refine run_let (fun σ28 => (275, [some (vR 111), some (vI l1), some (vI l2), some (vI l3), some (vI l4), some (vL l5), none, some (vI l7), some (vI l8), some (vI l9)], [], σ28)) hf (fun σ28 hf => ?_)
      refine run_seg (k := 1) (s' := (278, [some (vR 111), some (vI l1), some (vI l2), some (vI l3), some (vI l4), some (vL l5), none, some (vI l7), some (vI l8), some (vI (w32 (l9 + 1)))], [], σ28)) rfl ?_
      refine run_let (fun x29 => (278, [some (vR 111), some (vI l1), some (vI l2), some (vI l3), some (vI l4), some (vL l5), none, some (vI l7), some (vI l8), some (vI x29)], [], σ28)) hf (fun x29 hf => ?_)
      refine run_seg (k := 1) (s' := (232, [some (vR 111), some (vI l1), some (vI l2), some (vI l3), some (vI l4), some (vL l5), none, some (vI l7), some (vI l8), some (vI x29)], [], σ28)) rfl ?_
      exact ih hf
    · refine run_seg (k := 1) (s' := (284, [some (vR 111), some (vI l1), some (vI l2), some (vI l3), some (vI l4), some (vL l5), none, some (vI l7), some (vI (w32 (l8 + 1))), some (vI l9)], [], σ)) rfl ?_
      refine run_let (fun x30 => (284, [some (vR 111), some (vI l1), some (vI l2), some (vI l3), some (vI l4), some (vL l5), none, some (vI l7), some (vI x30), some (vI l9)], [], σ)) hf (fun x30 hf => ?_)
      refine run_seg (k := 1) (s' := (222, [some (vR 111), some (vI l1), some (vI l2), some (vI l3), some (vI l4), some (vL l5), none, some (vI l7), some (vI x30), some (vI l9)], [], σ)) rfl ?_
      exact hk222 hf
theorem r_M_mixed_290 {k174 : (Int → Int → Int → Int → Int → Int → xSt → Option (Int × xSt))} (hk174 : ∀ {l1 : Int} {l2 : Int} {l3 : Int} {l4 : Int} {l5 : Int} {l7 : Int} {g8 : Option xV} {g9 : Option xV} {σ : xSt} {r : Int × xSt}, k174 l1 l2 l3 l4 l5 l7 σ = some r → Run 2 12 3 kX12_mixed (174, [some (vR 111), some (vI l1), some (vI l2), some (vI l3), some (vI l4), some (vL l5), none, some (vI l7), g8, g9], [], σ) (tLW r)) : ∀ (n : Nat) {l1 : Int} {l2 : Int} {l3 : Int} {l4 : Int} {l5 : Int} {l7 : Int} {l8 : Int} {g9 : Option xV} {σ : xSt} {r : Int × xSt}, f_M_mixed_290 k174 n l1 l2 l3 l4 l5 l7 l8 σ = some r → Run 2 12 3 kX12_mixed (290, [some (vR 111), some (vI l1), some (vI l2), some (vI l3), some (vI l4), some (vL l5), none, some (vI l7), some (vI l8), g9], [], σ) (tLW r) := by
  intro n
  induction n with
  | zero =>
    intro _ _ _ _ _ _ _ _ _ _ h
    exact nomatch (show (none : Option (Int × xSt)) = some _ from h)
  | succ n ih =>
    intro l1 l2 l3 l4 l5 l7 l8 g9 σ r hf
    unfold f_M_mixed_290 at hf
    refine run_seg (k := 3) (s' := (if l8 < l4 then (297, [some (vR 111), some (vI l1), some (vI l2), some (vI l3), some (vI l4), some (vL l5), none, some (vI l7), some (vI l8), g9], [], σ) else (317, [some (vR 111), some (vI l1), some (vI l2), some (vI l3), some (vI l4), some (vL l5), none, some (vI l7), some (vI l8), g9], [], σ))) rfl ?_
    refine run_ite hf (fun _ hf => ?_) (fun _ hf => ?_)
    · refine run_seg (k := 6) (s' := (309, [some (vR 111), some (vI l1), some (vI l2), some (vI l3), some (vI l4), some (vL l5), none, some (vI l7), some (vI l8), g9], [vI l8, vR 131, vI l8, vR 130], σ)) rfl ?_
      refine run_guard (s' := (310, [some (vR 111), some (vI l1), some (vI l2), some (vI l3), some (vI l4), some (vL l5), none, some (vI l7), some (vI l8), g9], [vL (σ 131 l8.toNat), vI l8, vR 130], σ)) hf rfl (fun hf => ?_)
      refine run_guard (s' := (311, [some (vR 111), some (vI l1), some (vI l2), some (vI l3), some (vI l4), some (vL l5), none, some (vI l7), some (vI l8), g9], [], upS σ 130 l8.toNat (σ 131 l8.toNat))) hf rfl (fun hf => ?_)
      refine run_let (fun σ31 => (311, [some (vR 111), some (vI l1), some (vI l2), some (vI l3), some (vI l4), some (vL l5), none, some (vI l7), some (vI l8), g9], [], σ31)) hf (fun σ31 hf => ?_)
      refine run_seg (k := 1) (s' := (314, [some (vR 111), some (vI l1), some (vI l2), some (vI l3), some (vI l4), some (vL l5), none, some (vI l7), some (vI (w32 (l8 + 1))), g9], [], σ31)) rfl ?_
      refine run_let (fun x32 => (314, [some (vR 111), some (vI l1), some (vI l2), some (vI l3), some (vI l4), some (vL l5), none, some (vI l7), some (vI x32), g9], [], σ31)) hf (fun x32 hf => ?_)
      refine run_seg (k := 1) (s' := (290, [some (vR 111), some (vI l1), some (vI l2), some (vI l3), some (vI l4), some (vL l5), none, some (vI l7), some (vI x32), g9], [], σ31)) rfl ?_
      exact ih hf
    · refine run_seg (k := 4) (s' := (325, [some (vR 111), some (vI l1), some (vI l2), some (vI l3), some (vI l4), some (vL l5), none, some (vI l7), some (vI l8), g9], [vI l7, vR 113, vL l5], σ)) rfl ?_
      refine run_callN (w := fun a => some (vI a)) (m := 235) (as := [vR 113, vI l7]) (pc := 328) (ls := [some (vR 111), some (vI l1), some (vI l2), some (vI l3), some (vI l4), some (vL l5), none, some (vI l7), some (vI l8), g9]) (st' := [vL l5]) (σ := σ) hf rfl (fun _ h => (c_M_partsOf h).mono (by decide)) (fun r33 hf => ?_)
      refine run_seg (k := 3) (s' := (332, [some (vR 111), some (vI l1), some (vI l2), some (vI l3), some (vI l4), some (vL (w64 (l5 * r33))), none, some (vI l7), some (vI l8), g9], [], σ)) rfl ?_
      refine run_let (fun x34 => (332, [some (vR 111), some (vI l1), some (vI l2), some (vI l3), some (vI l4), some (vL x34), none, some (vI l7), some (vI l8), g9], [], σ)) hf (fun x34 hf => ?_)
      refine run_seg (k := 1) (s' := (335, [some (vR 111), some (vI l1), some (vI l2), some (vI l3), some (vI l4), some (vL x34), none, some (vI (w32 (l7 + 1))), some (vI l8), g9], [], σ)) rfl ?_
      refine run_let (fun x35 => (335, [some (vR 111), some (vI l1), some (vI l2), some (vI l3), some (vI l4), some (vL x34), none, some (vI x35), some (vI l8), g9], [], σ)) hf (fun x35 hf => ?_)
      refine run_seg (k := 1) (s' := (174, [some (vR 111), some (vI l1), some (vI l2), some (vI l3), some (vI l4), some (vL x34), none, some (vI x35), some (vI l8), g9], [], σ)) rfl ?_
      exact hk174 hf
theorem r_M_mixed_222 {k174 : (Int → Int → Int → Int → Int → Int → xSt → Option (Int × xSt))} (hk174 : ∀ {l1 : Int} {l2 : Int} {l3 : Int} {l4 : Int} {l5 : Int} {l7 : Int} {g8 : Option xV} {g9 : Option xV} {σ : xSt} {r : Int × xSt}, k174 l1 l2 l3 l4 l5 l7 σ = some r → Run 2 12 3 kX12_mixed (174, [some (vR 111), some (vI l1), some (vI l2), some (vI l3), some (vI l4), some (vL l5), none, some (vI l7), g8, g9], [], σ) (tLW r)) : ∀ (n : Nat) {l1 : Int} {l2 : Int} {l3 : Int} {l4 : Int} {l5 : Int} {l7 : Int} {l8 : Int} {g9 : Option xV} {σ : xSt} {r : Int × xSt}, f_M_mixed_222 k174 n l1 l2 l3 l4 l5 l7 l8 σ = some r → Run 2 12 3 kX12_mixed (222, [some (vR 111), some (vI l1), some (vI l2), some (vI l3), some (vI l4), some (vL l5), none, some (vI l7), some (vI l8), g9], [], σ) (tLW r) := by
  intro n
  induction n with
  | zero =>
    intro _ _ _ _ _ _ _ _ _ _ h
    exact nomatch (show (none : Option (Int × xSt)) = some _ from h)
  | succ n ih =>
    intro l1 l2 l3 l4 l5 l7 l8 g9 σ r hf
    unfold f_M_mixed_222 at hf
    refine run_seg (k := 3) (s' := (if l8 < l4 then (229, [some (vR 111), some (vI l1), some (vI l2), some (vI l3), some (vI l4), some (vL l5), none, some (vI l7), some (vI l8), g9], [], σ) else (287, [some (vR 111), some (vI l1), some (vI l2), some (vI l3), some (vI l4), some (vL l5), none, some (vI l7), some (vI l8), g9], [], σ))) rfl ?_
    refine run_ite hf (fun _ hf => ?_) (fun _ hf => ?_)
    · refine run_seg (k := 2) (s' := (232, [some (vR 111), some (vI l1), some (vI l2), some (vI l3), some (vI l4), some (vL l5), none, some (vI l7), some (vI l8), some (vI 0)], [], σ)) rfl ?_
      exact r_M_mixed_232 (hk174) (fun h => ih h) 1000000 hf
    · refine run_seg (k := 2) (s' := (290, [some (vR 111), some (vI l1), some (vI l2), some (vI l3), some (vI l4), some (vL l5), none, some (vI l7), some (vI 0), g9], [], σ)) rfl ?_
      exact r_M_mixed_290 (hk174) 1000000 hf
theorem r_M_mixed_198 {k174 : (Int → Int → Int → Int → Int → Int → xSt → Option (Int × xSt))} (hk174 : ∀ {l1 : Int} {l2 : Int} {l3 : Int} {l4 : Int} {l5 : Int} {l7 : Int} {g8 : Option xV} {g9 : Option xV} {σ : xSt} {r : Int × xSt}, k174 l1 l2 l3 l4 l5 l7 σ = some r → Run 2 12 3 kX12_mixed (174, [some (vR 111), some (vI l1), some (vI l2), some (vI l3), some (vI l4), some (vL l5), none, some (vI l7), g8, g9], [], σ) (tLW r)) : ∀ (n : Nat) {l1 : Int} {l2 : Int} {l3 : Int} {l4 : Int} {l5 : Int} {l7 : Int} {l8 : Int} {g9 : Option xV} {σ : xSt} {r : Int × xSt}, f_M_mixed_198 k174 n l1 l2 l3 l4 l5 l7 l8 σ = some r → Run 2 12 3 kX12_mixed (198, [some (vR 111), some (vI l1), some (vI l2), some (vI l3), some (vI l4), some (vL l5), none, some (vI l7), some (vI l8), g9], [], σ) (tLW r) := by
  intro n
  induction n with
  | zero =>
    intro _ _ _ _ _ _ _ _ _ _ h
    exact nomatch (show (none : Option (Int × xSt)) = some _ from h)
  | succ n ih =>
    intro l1 l2 l3 l4 l5 l7 l8 g9 σ r hf
    unfold f_M_mixed_198 at hf
    refine run_seg (k := 3) (s' := (if l8 < l4 then (205, [some (vR 111), some (vI l1), some (vI l2), some (vI l3), some (vI l4), some (vL l5), none, some (vI l7), some (vI l8), g9], [], σ) else (219, [some (vR 111), some (vI l1), some (vI l2), some (vI l3), some (vI l4), some (vL l5), none, some (vI l7), some (vI l8), g9], [], σ))) rfl ?_
    refine run_ite hf (fun _ hf => ?_) (fun _ hf => ?_)
    · refine run_seg (k := 4) (s' := (212, [some (vR 111), some (vI l1), some (vI l2), some (vI l3), some (vI l4), some (vL l5), none, some (vI l7), some (vI l8), g9], [vL 0, vI l8, vR 131], σ)) rfl ?_
      refine run_guard (s' := (213, [some (vR 111), some (vI l1), some (vI l2), some (vI l3), some (vI l4), some (vL l5), none, some (vI l7), some (vI l8), g9], [], upS σ 131 l8.toNat 0)) hf rfl (fun hf => ?_)
      refine run_let (fun σ25 => (213, [some (vR 111), some (vI l1), some (vI l2), some (vI l3), some (vI l4), some (vL l5), none, some (vI l7), some (vI l8), g9], [], σ25)) hf (fun σ25 hf => ?_)
      refine run_seg (k := 1) (s' := (216, [some (vR 111), some (vI l1), some (vI l2), some (vI l3), some (vI l4), some (vL l5), none, some (vI l7), some (vI (w32 (l8 + 1))), g9], [], σ25)) rfl ?_
      refine run_let (fun x26 => (216, [some (vR 111), some (vI l1), some (vI l2), some (vI l3), some (vI l4), some (vL l5), none, some (vI l7), some (vI x26), g9], [], σ25)) hf (fun x26 hf => ?_)
      refine run_seg (k := 1) (s' := (198, [some (vR 111), some (vI l1), some (vI l2), some (vI l3), some (vI l4), some (vL l5), none, some (vI l7), some (vI x26), g9], [], σ25)) rfl ?_
      exact ih hf
    · refine run_seg (k := 2) (s' := (222, [some (vR 111), some (vI l1), some (vI l2), some (vI l3), some (vI l4), some (vL l5), none, some (vI l7), some (vI 0), g9], [], σ)) rfl ?_
      exact r_M_mixed_222 (hk174) 1000000 hf
theorem r_M_mixed_174 : ∀ (n : Nat) {l1 : Int} {l2 : Int} {l3 : Int} {l4 : Int} {l5 : Int} {l7 : Int} {g8 : Option xV} {g9 : Option xV} {σ : xSt} {r : Int × xSt}, f_M_mixed_174 n l1 l2 l3 l4 l5 l7 σ = some r → Run 2 12 3 kX12_mixed (174, [some (vR 111), some (vI l1), some (vI l2), some (vI l3), some (vI l4), some (vL l5), none, some (vI l7), g8, g9], [], σ) (tLW r) := by
  intro n
  induction n with
  | zero =>
    intro _ _ _ _ _ _ _ _ _ _ h
    exact nomatch (show (none : Option (Int × xSt)) = some _ from h)
  | succ n ih =>
    intro l1 l2 l3 l4 l5 l7 g8 g9 σ r hf
    unfold f_M_mixed_174 at hf
    refine run_seg (k := 2) (s' := (177, [some (vR 111), some (vI l1), some (vI l2), some (vI l3), some (vI l4), some (vL l5), none, some (vI l7), g8, g9], [vR 111, vI l7], σ)) rfl ?_
    refine run_callN (w := fun a => some (vI a)) (m := 245) (as := [vR 111]) (pc := 180) (ls := [some (vR 111), some (vI l1), some (vI l2), some (vI l3), some (vI l4), some (vL l5), none, some (vI l7), g8, g9]) (st' := [vI l7]) (σ := σ) hf rfl (fun _ h => (c_M_things h).mono (by decide)) (fun r21 hf => ?_)
    refine run_seg (k := 1) (s' := (if l7 < r21 then (183, [some (vR 111), some (vI l1), some (vI l2), some (vI l3), some (vI l4), some (vL l5), none, some (vI l7), g8, g9], [], σ) else (338, [some (vR 111), some (vI l1), some (vI l2), some (vI l3), some (vI l4), some (vL l5), none, some (vI l7), g8, g9], [], σ))) rfl ?_
    refine run_ite hf (fun _ hf => ?_) (fun _ hf => ?_)
    · refine run_seg (k := 2) (s' := (186, [some (vR 111), some (vI l1), some (vI l2), some (vI l3), some (vI l4), some (vL l5), none, some (vI l7), g8, g9], [vI l7, vI l1], σ)) rfl ?_
      refine run_callN (w := fun a => some (vI a)) (m := 217) (as := [vI l1, vI l7]) (pc := 189) (ls := [some (vR 111), some (vI l1), some (vI l2), some (vI l3), some (vI l4), some (vL l5), none, some (vI l7), g8, g9]) (st' := []) (σ := σ) hf rfl (fun _ h => (c_M_has h).mono (by decide)) (fun r22 hf => ?_)
      refine run_seg (k := 1) (s' := (if r22 = 0 then (192, [some (vR 111), some (vI l1), some (vI l2), some (vI l3), some (vI l4), some (vL l5), none, some (vI l7), g8, g9], [], σ) else (195, [some (vR 111), some (vI l1), some (vI l2), some (vI l3), some (vI l4), some (vL l5), none, some (vI l7), g8, g9], [], σ))) rfl ?_
      refine run_ite hf (fun _ hf => ?_) (fun _ hf => ?_)
      · refine run_seg (k := 2) (s' := (335, [some (vR 111), some (vI l1), some (vI l2), some (vI l3), some (vI l4), some (vL l5), none, some (vI (w32 (l7 + 1))), g8, g9], [], σ)) rfl ?_
        refine run_let (fun x23 => (335, [some (vR 111), some (vI l1), some (vI l2), some (vI l3), some (vI l4), some (vL l5), none, some (vI x23), g8, g9], [], σ)) hf (fun x23 hf => ?_)
        refine run_seg (k := 1) (s' := (174, [some (vR 111), some (vI l1), some (vI l2), some (vI l3), some (vI l4), some (vL l5), none, some (vI x23), g8, g9], [], σ)) rfl ?_
        exact ih hf
      · refine run_seg (k := 2) (s' := (198, [some (vR 111), some (vI l1), some (vI l2), some (vI l3), some (vI l4), some (vL l5), none, some (vI l7), some (vI 0), g9], [], σ)) rfl ?_
        exact r_M_mixed_198 (fun h => ih h) 1000000 hf
    · refine run_seg (k := 3) (s' := (343, [some (vR 111), some (vI l1), some (vI l2), some (vI l3), some (vI l4), some (vL l5), none, some (vI l7), g8, g9], [vI l2, vR 130], σ)) rfl ?_
      refine run_guard (s' := (344, [some (vR 111), some (vI l1), some (vI l2), some (vI l3), some (vI l4), some (vL l5), none, some (vI l7), g8, g9], [vL (σ 130 l2.toNat)], σ)) hf rfl (fun hf => ?_)
      refine run_seg (k := 2) (s' := (347, [some (vR 111), some (vI l1), some (vI l2), some (vI l3), some (vI l4), some (vL l5), none, some (vI l7), g8, g9], [vI l3, vL l5, vL (σ 130 l2.toNat)], σ)) rfl ?_
      refine run_callN (w := fun a => some (vL a)) (m := 219) (as := [vL (σ 130 l2.toNat), vL l5, vI l3]) (pc := 350) (ls := [some (vR 111), some (vI l1), some (vI l2), some (vI l3), some (vI l4), some (vL l5), none, some (vI l7), g8, g9]) (st' := []) (σ := σ) hf rfl (fun _ h => (c_M_part h).mono (by decide)) (fun r24 hf => ?_)
      exact run_ret hf rfl
theorem r_M_mixed_141 : ∀ (n : Nat) {l1 : Int} {l2 : Int} {l3 : Int} {l4 : Int} {l5 : Int} {l7 : Int} {g8 : Option xV} {g9 : Option xV} {σ : xSt} {r : Int × xSt}, f_M_mixed_141 n l1 l2 l3 l4 l5 l7 σ = some r → Run 2 12 3 kX12_mixed (141, [some (vR 111), some (vI l1), some (vI l2), some (vI l3), some (vI l4), some (vL l5), none, some (vI l7), g8, g9], [], σ) (tLW r) := by
  intro n
  induction n with
  | zero =>
    intro _ _ _ _ _ _ _ _ _ _ h
    exact nomatch (show (none : Option (Int × xSt)) = some _ from h)
  | succ n ih =>
    intro l1 l2 l3 l4 l5 l7 g8 g9 σ r hf
    unfold f_M_mixed_141 at hf
    refine run_seg (k := 3) (s' := (if l7 < l4 then (148, [some (vR 111), some (vI l1), some (vI l2), some (vI l3), some (vI l4), some (vL l5), none, some (vI l7), g8, g9], [], σ) else (171, [some (vR 111), some (vI l1), some (vI l2), some (vI l3), some (vI l4), some (vL l5), none, some (vI l7), g8, g9], [], σ))) rfl ?_
    refine run_ite hf (fun _ hf => ?_) (fun _ hf => ?_)
    · refine run_seg (k := 5) (s' := (if l7 = 0 then (159, [some (vR 111), some (vI l1), some (vI l2), some (vI l3), some (vI l4), some (vL l5), none, some (vI l7), g8, g9], [vI l7, vR 130], σ) else (163, [some (vR 111), some (vI l1), some (vI l2), some (vI l3), some (vI l4), some (vL l5), none, some (vI l7), g8, g9], [vI l7, vR 130], σ))) rfl ?_
      refine run_ite hf (fun _ hf => ?_) (fun _ hf => ?_)
      · refine run_seg (k := 2) (s' := (164, [some (vR 111), some (vI l1), some (vI l2), some (vI l3), some (vI l4), some (vL l5), none, some (vI l7), g8, g9], [vL 1, vI l7, vR 130], σ)) rfl ?_
        exact r_M_mixed_164 (fun h => ih h) hf
      · refine run_seg (k := 1) (s' := (164, [some (vR 111), some (vI l1), some (vI l2), some (vI l3), some (vI l4), some (vL l5), none, some (vI l7), g8, g9], [vL 0, vI l7, vR 130], σ)) rfl ?_
        exact r_M_mixed_164 (fun h => ih h) hf
    · refine run_seg (k := 2) (s' := (174, [some (vR 111), some (vI l1), some (vI l2), some (vI l3), some (vI l4), some (vL l5), none, some (vI 0), g8, g9], [], σ)) rfl ?_
      exact r_M_mixed_174 1000000 hf
theorem r_M_mixed_40 : ∀ (n : Nat) {l1 : Int} {l2 : Int} {l3 : Int} {l4 : Int} {l5 : Int} {g6 : Option xV} {g7 : Option xV} {g8 : Option xV} {g9 : Option xV} {σ : xSt} {r : Int × xSt}, f_M_mixed_40 n l1 l2 l3 l4 l5 σ = some r → Run 2 12 3 kX12_mixed (40, [some (vR 111), some (vI l1), some (vI l2), some (vI l3), some (vI l4), some (vI l5), g6, g7, g8, g9], [], σ) (tLW r) := by
  intro n
  induction n with
  | zero =>
    intro _ _ _ _ _ _ _ _ _ _ _ h
    exact nomatch (show (none : Option (Int × xSt)) = some _ from h)
  | succ n ih =>
    intro l1 l2 l3 l4 l5 g6 g7 g8 g9 σ r hf
    unfold f_M_mixed_40 at hf
    refine run_seg (k := 2) (s' := (43, [some (vR 111), some (vI l1), some (vI l2), some (vI l3), some (vI l4), some (vI l5), g6, g7, g8, g9], [vR 111, vI l5], σ)) rfl ?_
    refine run_callN (w := fun a => some (vI a)) (m := 245) (as := [vR 111]) (pc := 46) (ls := [some (vR 111), some (vI l1), some (vI l2), some (vI l3), some (vI l4), some (vI l5), g6, g7, g8, g9]) (st' := [vI l5]) (σ := σ) hf rfl (fun _ h => (c_M_things h).mono (by decide)) (fun r7 hf => ?_)
    refine run_seg (k := 1) (s' := (if l5 < r7 then (49, [some (vR 111), some (vI l1), some (vI l2), some (vI l3), some (vI l4), some (vI l5), g6, g7, g8, g9], [], σ) else (113, [some (vR 111), some (vI l1), some (vI l2), some (vI l3), some (vI l4), some (vI l5), g6, g7, g8, g9], [], σ))) rfl ?_
    refine run_ite hf (fun _ hf => ?_) (fun _ hf => ?_)
    · refine run_seg (k := 2) (s' := (52, [some (vR 111), some (vI l1), some (vI l2), some (vI l3), some (vI l4), some (vI l5), g6, g7, g8, g9], [vI l5, vI l1], σ)) rfl ?_
      refine run_callN (w := fun a => some (vI a)) (m := 217) (as := [vI l1, vI l5]) (pc := 55) (ls := [some (vR 111), some (vI l1), some (vI l2), some (vI l3), some (vI l4), some (vI l5), g6, g7, g8, g9]) (st' := []) (σ := σ) hf rfl (fun _ h => (c_M_has h).mono (by decide)) (fun r8 hf => ?_)
      refine run_seg (k := 1) (s' := (if r8 = 0 then (58, [some (vR 111), some (vI l1), some (vI l2), some (vI l3), some (vI l4), some (vI l5), g6, g7, g8, g9], [], σ) else (61, [some (vR 111), some (vI l1), some (vI l2), some (vI l3), some (vI l4), some (vI l5), g6, g7, g8, g9], [], σ))) rfl ?_
      refine run_ite hf (fun _ hf => ?_) (fun _ hf => ?_)
      · refine run_seg (k := 2) (s' := (110, [some (vR 111), some (vI l1), some (vI l2), some (vI l3), some (vI l4), some (vI (w32 (l5 + 1))), g6, g7, g8, g9], [], σ)) rfl ?_
        refine run_let (fun x9 => (110, [some (vR 111), some (vI l1), some (vI l2), some (vI l3), some (vI l4), some (vI x9), g6, g7, g8, g9], [], σ)) hf (fun x9 hf => ?_)
        refine run_seg (k := 1) (s' := (40, [some (vR 111), some (vI l1), some (vI l2), some (vI l3), some (vI l4), some (vI x9), g6, g7, g8, g9], [], σ)) rfl ?_
        exact ih hf
      · refine run_seg (k := 6) (s' := (if l5 = σ 113 2 then (91, [some (vR 111), some (vI l1), some (vI l2), some (vI l3), some (vI l4), some (vI l5), g6, g7, g8, g9], [], σ) else (72, [some (vR 111), some (vI l1), some (vI l2), some (vI l3), some (vI l4), some (vI l5), g6, g7, g8, g9], [], σ))) rfl ?_
        refine run_ite hf (fun _ hf => ?_) (fun _ hf => ?_)
        · exact r_M_mixed_91 hf
        · refine run_seg (k := 2) (s' := (if 0 < l4 then (77, [some (vR 111), some (vI l1), some (vI l2), some (vI l3), some (vI l4), some (vI l5), g6, g7, g8, g9], [], σ) else (96, [some (vR 111), some (vI l1), some (vI l2), some (vI l3), some (vI l4), some (vI l5), g6, g7, g8, g9], [], σ))) rfl ?_
          refine run_ite hf (fun _ hf => ?_) (fun _ hf => ?_)
          · refine run_seg (k := 4) (s' := (85, [some (vR 111), some (vI l1), some (vI l2), some (vI l3), some (vI l4), some (vI l5), g6, g7, g8, g9], [vI l5, vR 113, vI l4], σ)) rfl ?_
            refine run_callN (w := fun a => some (vI a)) (m := 234) (as := [vR 113, vI l5]) (pc := 88) (ls := [some (vR 111), some (vI l1), some (vI l2), some (vI l3), some (vI l4), some (vI l5), g6, g7, g8, g9]) (st' := [vI l4]) (σ := σ) hf rfl (fun _ h => (c_M_sidesOf h).mono (by decide)) (fun r10 hf => ?_)
            refine run_seg (k := 1) (s' := (if l4 = r10 then (96, [some (vR 111), some (vI l1), some (vI l2), some (vI l3), some (vI l4), some (vI l5), g6, g7, g8, g9], [], σ) else (91, [some (vR 111), some (vI l1), some (vI l2), some (vI l3), some (vI l4), some (vI l5), g6, g7, g8, g9], [], σ))) rfl ?_
            refine run_ite hf (fun _ hf => ?_) (fun _ hf => ?_)
            · exact r_M_mixed_96 (fun h => ih h) hf
            · exact r_M_mixed_91 hf
          · exact r_M_mixed_96 (fun h => ih h) hf
    · refine run_seg (k := 5) (s' := (119, [some (vR 111), some (vI l1), some (vI l2), some (vI l3), some (vI l4), some (vI l5), g6, g7, g8, g9], [vI (w32 (l4 - 1)), vI 0, vI l2], σ)) rfl ?_
      refine run_callN (w := fun a => some (vI a)) (m := 216) (as := [vI l2, vI 0, vI (w32 (l4 - 1))]) (pc := 122) (ls := [some (vR 111), some (vI l1), some (vI l2), some (vI l3), some (vI l4), some (vI l5), g6, g7, g8, g9]) (st' := []) (σ := σ) hf rfl (fun _ h => (c_M_isIn h).mono (by decide)) (fun r11 hf => ?_)
      refine run_seg (k := 1) (s' := (if r11 = 0 then (125, [some (vR 111), some (vI l1), some (vI l2), some (vI l3), some (vI l4), some (vI l5), g6, g7, g8, g9], [], σ) else (130, [some (vR 111), some (vI l1), some (vI l2), some (vI l3), some (vI l4), some (vI l5), g6, g7, g8, g9], [], σ))) rfl ?_
      refine run_ite hf (fun _ hf => ?_) (fun _ hf => ?_)
      · refine run_seg (k := 1) (s' := (126, [some (vR 111), some (vI l1), some (vI l2), some (vI l3), some (vI l4), some (vI l5), g6, g7, g8, g9], [vR 111], σ)) rfl ?_
        refine run_callW (w := fun a => some (vL a)) (m := 211) (as := [vR 111]) (pc := 129) (ls := [some (vR 111), some (vI l1), some (vI l2), some (vI l3), some (vI l4), some (vI l5), g6, g7, g8, g9]) (st' := []) (σ := σ) hf rfl (fun _ _ h => (c_M_refuseLong h).mono (by decide)) (fun r12 σ13 hf => ?_)
        exact run_ret hf rfl
      · refine run_seg (k := 3) (s' := (135, [some (vR 111), some (vI l1), some (vI l2), some (vI l3), some (vI l4), some (vI l5), g6, g7, g8, g9], [], upS σ 111 0 0)) rfl ?_
        refine run_let (fun σ14 => (135, [some (vR 111), some (vI l1), some (vI l2), some (vI l3), some (vI l4), some (vI l5), g6, g7, g8, g9], [], σ14)) hf (fun σ14 hf => ?_)
        refine run_seg (k := 4) (s' := (141, [some (vR 111), some (vI l1), some (vI l2), some (vI l3), some (vI l4), some (vL 1), none, some (vI 0), g8, g9], [], σ14)) rfl ?_
        exact r_M_mixed_141 1000000 hf
theorem c_M_mixed {p1 : Int} {p2 : Int} {p3 : Int} {σ : xSt} {r : Int × xSt} (hf : f_M_mixed p1 p2 p3 σ = some r) : Call (2 + 1) 314 [vR 111, vI p1, vI p2, vI p3] σ (tLW r).1 (tLW r).2 := by
  unfold f_M_mixed at hf
  refine call_of (own := 12) (rk := 3) (cd := kX12_mixed) (ls := [some (vR 111), some (vI p1), some (vI p2), some (vI p3), none, none, none, none, none, none]) (rT := tLW) rfl rfl rfl rfl rfl ?_
  refine run_seg (k := 1) (s' := (1, [some (vR 111), some (vI p1), some (vI p2), some (vI p3), none, none, none, none, none, none], [vR 111], σ)) rfl ?_
  refine run_callV (m := 233) (as := [vR 111]) (pc := 4) (ls := [some (vR 111), some (vI p1), some (vI p2), some (vI p3), none, none, none, none, none, none]) (st' := []) (σ := σ) hf rfl (fun _ h => (c_M_lay h).mono (by decide)) (fun σ1 hf => ?_)
  refine run_seg (k := 4) (s' := (8, [some (vR 111), some (vI p1), some (vI p2), some (vI p3), none, none, none, none, none, none], [vR 111, vI 1, vI 1, vI p1], σ1)) rfl ?_
  refine run_callN (w := fun a => some (vI a)) (m := 245) (as := [vR 111]) (pc := 11) (ls := [some (vR 111), some (vI p1), some (vI p2), some (vI p3), none, none, none, none, none, none]) (st' := [vI 1, vI 1, vI p1]) (σ := σ1) hf rfl (fun _ h => (c_M_things h).mono (by decide)) (fun r2 hf => ?_)
  refine run_seg (k := 3) (s' := (14, [some (vR 111), some (vI p1), some (vI p2), some (vI p3), none, none, none, none, none, none], [vI (w32 ((xshl 1 r2) - 1)), vI 1, vI p1], σ1)) rfl ?_
  refine run_callN (w := fun a => some (vI a)) (m := 216) (as := [vI p1, vI 1, vI (w32 ((xshl 1 r2) - 1))]) (pc := 17) (ls := [some (vR 111), some (vI p1), some (vI p2), some (vI p3), none, none, none, none, none, none]) (st' := []) (σ := σ1) hf rfl (fun _ h => (c_M_isIn h).mono (by decide)) (fun r3 hf => ?_)
  refine run_seg (k := 1) (s' := (if r3 = 0 then (29, [some (vR 111), some (vI p1), some (vI p2), some (vI p3), none, none, none, none, none, none], [], σ1) else (20, [some (vR 111), some (vI p1), some (vI p2), some (vI p3), none, none, none, none, none, none], [], σ1))) rfl ?_
  refine run_ite hf (fun _ hf => ?_) (fun _ hf => ?_)
  · exact r_M_mixed_29 hf
  · refine run_seg (k := 3) (s' := (23, [some (vR 111), some (vI p1), some (vI p2), some (vI p3), none, none, none, none, none, none], [vI 1, vI 0, vI p3], σ1)) rfl ?_
    refine run_callN (w := fun a => some (vI a)) (m := 216) (as := [vI p3, vI 0, vI 1]) (pc := 26) (ls := [some (vR 111), some (vI p1), some (vI p2), some (vI p3), none, none, none, none, none, none]) (st' := []) (σ := σ1) hf rfl (fun _ h => (c_M_isIn h).mono (by decide)) (fun r4 hf => ?_)
    refine run_seg (k := 1) (s' := (if r4 = 0 then (29, [some (vR 111), some (vI p1), some (vI p2), some (vI p3), none, none, none, none, none, none], [], σ1) else (34, [some (vR 111), some (vI p1), some (vI p2), some (vI p3), none, none, none, none, none, none], [], σ1))) rfl ?_
    refine run_ite hf (fun _ hf => ?_) (fun _ hf => ?_)
    · exact r_M_mixed_29 hf
    · refine run_seg (k := 4) (s' := (40, [some (vR 111), some (vI p1), some (vI p2), some (vI p3), some (vI 0), some (vI 0), none, none, none, none], [], σ1)) rfl ?_
      exact r_M_mixed_40 1000000 hf
