/-! printed by wip/whole/all16.py: what the methods compute, and that the reader does so -/
/-- BentPenny.isWithin(II)Z -/
def f_X_isWithin (p0 : Int) (p1 : Int) (σ : xSt) : Option (Int) :=
  if p0 < 0 then (some 0)
  else (if p0 < p1 then (some 1)
  else (some 0))
theorem c_X_isWithin {p0 : Int} {p1 : Int} {σ : xSt} {r : Int} (hf : f_X_isWithin p0 p1 σ = some r) : Call (0 + 1) 207 [vI p0, vI p1] σ ((tI σ) r).1 ((tI σ) r).2 := by
  unfold f_X_isWithin at hf
  refine call_of (own := 11) (rk := 2) (cd := kX11_isWithin) (ls := [some (vI p0), some (vI p1)]) (rT := (tI σ)) rfl rfl rfl rfl rfl ?_
  refine run_seg (k := 2) (s' := (if p0 < 0 then (13, [some (vI p0), some (vI p1)], [], σ) else (4, [some (vI p0), some (vI p1)], [], σ))) rfl ?_
  refine run_ite hf (fun _ hf => ?_) (fun _ hf => ?_)
  · refine run_seg (k := 1) (s' := (14, [some (vI p0), some (vI p1)], [vI 0], σ)) rfl ?_
    exact run_ret hf rfl
  · refine run_seg (k := 3) (s' := (if p0 < p1 then (9, [some (vI p0), some (vI p1)], [], σ) else (13, [some (vI p0), some (vI p1)], [], σ))) rfl ?_
    refine run_ite hf (fun _ hf => ?_) (fun _ hf => ?_)
    · refine run_seg (k := 2) (s' := (14, [some (vI p0), some (vI p1)], [vI 1], σ)) rfl ?_
      exact run_ret hf rfl
    · refine run_seg (k := 1) (s' := (14, [some (vI p0), some (vI p1)], [vI 0], σ)) rfl ?_
      exact run_ret hf rfl
def f_X_feedNumber_3 : Nat → Int → Int → xSt → Option (xSt)
  | 0, _, _, _ => none
  | n + 1, l1, l2, σ =>
    if l2 < 0 then (some σ)
    else (xbR (f_X_isWithin (σ 0 1) 640 σ) fun r1 =>
    if r1 = 0 then (xlet (w32 (l2 + (-8))) fun x2 =>
    f_X_feedNumber_3 n l1 x2 σ)
    else (if 0 ≤ σ 0 1 ∧ σ 0 1 < 640 then (
    xlet (upS σ 1 (σ 0 1).toNat (w8 (w8 (xushr l1 l2)))) fun σ3 =>
    xlet (upS σ3 0 1 (w32 ((σ3 0 1) + 1))) fun σ4 =>
    xlet (w32 (l2 + (-8))) fun x5 =>
    f_X_feedNumber_3 n l1 x5 σ4) else none))
/-- BentPenny.feedNumber(I)V -/
def f_X_feedNumber (p1 : Int) (σ : xSt) : Option (xSt) :=
  f_X_feedNumber_3 1000000 p1 24 σ
theorem r_X_feedNumber_3 : ∀ (n : Nat) {l1 : Int} {l2 : Int} {σ : xSt} {r : xSt}, f_X_feedNumber_3 n l1 l2 σ = some r → Run 1 11 0 kX11_feedNumber (3, [some (vR 0), some (vI l1), some (vI l2)], [], σ) (tV r) := by
  intro n
  induction n with
  | zero =>
    intro _ _ _ _ h
    exact nomatch (show (none : Option (xSt)) = some _ from h)
  | succ n ih =>
    intro l1 l2 σ r hf
    unfold f_X_feedNumber_3 at hf
    refine run_seg (k := 2) (s' := (if l2 < 0 then (51, [some (vR 0), some (vI l1), some (vI l2)], [], σ) else (7, [some (vR 0), some (vI l1), some (vI l2)], [], σ))) rfl ?_
    refine run_ite hf (fun _ hf => ?_) (fun _ hf => ?_)
    · exact run_ret hf rfl
    · refine run_seg (k := 5) (s' := (16, [some (vR 0), some (vI l1), some (vI l2)], [vI 640, vI (σ 0 1)], σ)) rfl ?_
      refine run_callN (w := fun a => some (vI a)) (m := 207) (as := [vI (σ 0 1), vI 640]) (pc := 19) (ls := [some (vR 0), some (vI l1), some (vI l2)]) (st' := []) (σ := σ) hf rfl (fun _ h => (c_X_isWithin h).mono (by decide)) (fun r1 hf => ?_)
      refine run_seg (k := 1) (s' := (if r1 = 0 then (45, [some (vR 0), some (vI l1), some (vI l2)], [], σ) else (22, [some (vR 0), some (vI l1), some (vI l2)], [], σ))) rfl ?_
      refine run_ite hf (fun _ hf => ?_) (fun _ hf => ?_)
      · refine run_seg (k := 1) (s' := (48, [some (vR 0), some (vI l1), some (vI (w32 (l2 + (-8))))], [], σ)) rfl ?_
        refine run_let (fun x2 => (48, [some (vR 0), some (vI l1), some (vI x2)], [], σ)) hf (fun x2 hf => ?_)
        refine run_seg (k := 1) (s' := (3, [some (vR 0), some (vI l1), some (vI x2)], [], σ)) rfl ?_
        exact ih hf
      · refine run_seg (k := 8) (s' := (34, [some (vR 0), some (vI l1), some (vI l2)], [vI (w8 (xushr l1 l2)), vI (σ 0 1), vR 1], σ)) rfl ?_
        refine run_guard (s' := (35, [some (vR 0), some (vI l1), some (vI l2)], [], upS σ 1 (σ 0 1).toNat (w8 (w8 (xushr l1 l2))))) hf rfl (fun hf => ?_)
        refine run_let (fun σ3 => (35, [some (vR 0), some (vI l1), some (vI l2)], [], σ3)) hf (fun σ3 hf => ?_)
        refine run_seg (k := 6) (s' := (45, [some (vR 0), some (vI l1), some (vI l2)], [], upS σ3 0 1 (w32 ((σ3 0 1) + 1)))) rfl ?_
        refine run_let (fun σ4 => (45, [some (vR 0), some (vI l1), some (vI l2)], [], σ4)) hf (fun σ4 hf => ?_)
        refine run_seg (k := 1) (s' := (48, [some (vR 0), some (vI l1), some (vI (w32 (l2 + (-8))))], [], σ4)) rfl ?_
        refine run_let (fun x5 => (48, [some (vR 0), some (vI l1), some (vI x5)], [], σ4)) hf (fun x5 hf => ?_)
        refine run_seg (k := 1) (s' := (3, [some (vR 0), some (vI l1), some (vI x5)], [], σ4)) rfl ?_
        exact ih hf
theorem c_X_feedNumber {p1 : Int} {σ : xSt} {r : xSt} (hf : f_X_feedNumber p1 σ = some r) : Call (1 + 1) 150 [vR 0, vI p1] σ (tV r).1 (tV r).2 := by
  unfold f_X_feedNumber at hf
  refine call_of (own := 11) (rk := 0) (cd := kX11_feedNumber) (ls := [some (vR 0), some (vI p1), none]) (rT := tV) rfl rfl rfl rfl rfl ?_
  refine run_seg (k := 2) (s' := (3, [some (vR 0), some (vI p1), some (vI 24)], [], σ)) rfl ?_
  exact r_X_feedNumber_3 1000000 hf
/-- BentPenny.feed(IIIII)I -/
def f_X_feed (p1 : Int) (p2 : Int) (p3 : Int) (p4 : Int) (p5 : Int) (σ : xSt) : Option (Int × xSt) :=
  if 620 < σ 0 1 then (some ((-1), σ))
  else (xbR (f_X_feedNumber p1 σ) fun σ1 =>
  xbR (f_X_feedNumber p2 σ1) fun σ2 =>
  xbR (f_X_feedNumber p3 σ2) fun σ3 =>
  xbR (f_X_feedNumber p4 σ3) fun σ4 =>
  xbR (f_X_feedNumber p5 σ4) fun σ5 =>
  some (σ5 0 1, σ5))
theorem c_X_feed {p1 : Int} {p2 : Int} {p3 : Int} {p4 : Int} {p5 : Int} {σ : xSt} {r : Int × xSt} (hf : f_X_feed p1 p2 p3 p4 p5 σ = some r) : Call (2 + 1) 149 [vR 0, vI p1, vI p2, vI p3, vI p4, vI p5] σ (tIW r).1 (tIW r).2 := by
  unfold f_X_feed at hf
  refine call_of (own := 11) (rk := 1) (cd := kX11_feed) (ls := [some (vR 0), some (vI p1), some (vI p2), some (vI p3), some (vI p4), some (vI p5)]) (rT := tIW) rfl rfl rfl rfl rfl ?_
  refine run_seg (k := 4) (s' := (if 620 < σ 0 1 then (10, [some (vR 0), some (vI p1), some (vI p2), some (vI p3), some (vI p4), some (vI p5)], [], σ) else (12, [some (vR 0), some (vI p1), some (vI p2), some (vI p3), some (vI p4), some (vI p5)], [], σ))) rfl ?_
  refine run_ite hf (fun _ hf => ?_) (fun _ hf => ?_)
  · refine run_seg (k := 1) (s' := (11, [some (vR 0), some (vI p1), some (vI p2), some (vI p3), some (vI p4), some (vI p5)], [vI (-1)], σ)) rfl ?_
    exact run_ret hf rfl
  · refine run_seg (k := 2) (s' := (14, [some (vR 0), some (vI p1), some (vI p2), some (vI p3), some (vI p4), some (vI p5)], [vI p1, vR 0], σ)) rfl ?_
    refine run_callV (m := 150) (as := [vR 0, vI p1]) (pc := 17) (ls := [some (vR 0), some (vI p1), some (vI p2), some (vI p3), some (vI p4), some (vI p5)]) (st' := []) (σ := σ) hf rfl (fun _ h => (c_X_feedNumber h).mono (by decide)) (fun σ1 hf => ?_)
    refine run_seg (k := 2) (s' := (19, [some (vR 0), some (vI p1), some (vI p2), some (vI p3), some (vI p4), some (vI p5)], [vI p2, vR 0], σ1)) rfl ?_
    refine run_callV (m := 150) (as := [vR 0, vI p2]) (pc := 22) (ls := [some (vR 0), some (vI p1), some (vI p2), some (vI p3), some (vI p4), some (vI p5)]) (st' := []) (σ := σ1) hf rfl (fun _ h => (c_X_feedNumber h).mono (by decide)) (fun σ2 hf => ?_)
    refine run_seg (k := 2) (s' := (24, [some (vR 0), some (vI p1), some (vI p2), some (vI p3), some (vI p4), some (vI p5)], [vI p3, vR 0], σ2)) rfl ?_
    refine run_callV (m := 150) (as := [vR 0, vI p3]) (pc := 27) (ls := [some (vR 0), some (vI p1), some (vI p2), some (vI p3), some (vI p4), some (vI p5)]) (st' := []) (σ := σ2) hf rfl (fun _ h => (c_X_feedNumber h).mono (by decide)) (fun σ3 hf => ?_)
    refine run_seg (k := 2) (s' := (30, [some (vR 0), some (vI p1), some (vI p2), some (vI p3), some (vI p4), some (vI p5)], [vI p4, vR 0], σ3)) rfl ?_
    refine run_callV (m := 150) (as := [vR 0, vI p4]) (pc := 33) (ls := [some (vR 0), some (vI p1), some (vI p2), some (vI p3), some (vI p4), some (vI p5)]) (st' := []) (σ := σ3) hf rfl (fun _ h => (c_X_feedNumber h).mono (by decide)) (fun σ4 hf => ?_)
    refine run_seg (k := 2) (s' := (36, [some (vR 0), some (vI p1), some (vI p2), some (vI p3), some (vI p4), some (vI p5)], [vI p5, vR 0], σ4)) rfl ?_
    refine run_callV (m := 150) (as := [vR 0, vI p5]) (pc := 39) (ls := [some (vR 0), some (vI p1), some (vI p2), some (vI p3), some (vI p4), some (vI p5)]) (st' := []) (σ := σ4) hf rfl (fun _ h => (c_X_feedNumber h).mono (by decide)) (fun σ5 hf => ?_)
    refine run_seg (k := 2) (s' := (43, [some (vR 0), some (vI p1), some (vI p2), some (vI p3), some (vI p4), some (vI p5)], [vI (σ5 0 1)], σ5)) rfl ?_
    exact run_ret hf rfl
/-- BentPenny.end(I)Z -/
def f_X_end (p1 : Int) (σ : xSt) : Option (Int × xSt) :=
  if p1 < 0 then (some (0, σ))
  else (if σ 0 1 < p1 then (some (0, σ))
  else (xlet (upS σ 0 1 p1) fun σ1 =>
  some (1, σ1)))
theorem c_X_end {p1 : Int} {σ : xSt} {r : Int × xSt} (hf : f_X_end p1 σ = some r) : Call (0 + 1) 151 [vR 0, vI p1] σ (tIW r).1 (tIW r).2 := by
  unfold f_X_end at hf
  refine call_of (own := 11) (rk := 2) (cd := kX11_end) (ls := [some (vR 0), some (vI p1)]) (rT := tIW) rfl rfl rfl rfl rfl ?_
  refine run_seg (k := 2) (s' := (if p1 < 0 then (12, [some (vR 0), some (vI p1)], [], σ) else (4, [some (vR 0), some (vI p1)], [], σ))) rfl ?_
  refine run_ite hf (fun _ hf => ?_) (fun _ hf => ?_)
  · refine run_seg (k := 1) (s' := (13, [some (vR 0), some (vI p1)], [vI 0], σ)) rfl ?_
    exact run_ret hf rfl
  · refine run_seg (k := 4) (s' := (if σ 0 1 < p1 then (12, [some (vR 0), some (vI p1)], [], σ) else (14, [some (vR 0), some (vI p1)], [], σ))) rfl ?_
    refine run_ite hf (fun _ hf => ?_) (fun _ hf => ?_)
    · refine run_seg (k := 1) (s' := (13, [some (vR 0), some (vI p1)], [vI 0], σ)) rfl ?_
      exact run_ret hf rfl
    · refine run_seg (k := 3) (s' := (19, [some (vR 0), some (vI p1)], [], upS σ 0 1 p1)) rfl ?_
      refine run_let (fun σ1 => (19, [some (vR 0), some (vI p1)], [], σ1)) hf (fun σ1 hf => ?_)
      refine run_seg (k := 1) (s' := (20, [some (vR 0), some (vI p1)], [vI 1], σ1)) rfl ?_
      exact run_ret hf rfl
/-- BentPenny.takeTape()I -/
def f_X_takeTape (σ : xSt) : Option (Int × xSt) :=
  xlet (σ 0 1) fun x1 =>
  xlet (upS σ 0 1 0) fun σ2 =>
  some (x1, σ2)
theorem c_X_takeTape {σ : xSt} {r : Int × xSt} (hf : f_X_takeTape σ = some r) : Call (0 + 1) 152 [vR 0] σ (tIW r).1 (tIW r).2 := by
  unfold f_X_takeTape at hf
  refine call_of (own := 11) (rk := 1) (cd := kX11_takeTape) (ls := [some (vR 0), none]) (rT := tIW) rfl rfl rfl rfl rfl ?_
  refine run_seg (k := 3) (s' := (5, [some (vR 0), some (vI (σ 0 1))], [], σ)) rfl ?_
  refine run_let (fun x1 => (5, [some (vR 0), some (vI x1)], [], σ)) hf (fun x1 hf => ?_)
  refine run_seg (k := 3) (s' := (10, [some (vR 0), some (vI x1)], [], upS σ 0 1 0)) rfl ?_
  refine run_let (fun σ2 => (10, [some (vR 0), some (vI x1)], [], σ2)) hf (fun σ2 hf => ?_)
  refine run_seg (k := 1) (s' := (11, [some (vR 0), some (vI x1)], [vI x1], σ2)) rfl ?_
  exact run_ret hf rfl
/-- BentPenny$Tokens.isLetter(I)Z -/
def f_Tokens_isLetter (p0 : Int) (σ : xSt) : Option (Int) :=
  if p0 < 97 then (some 0)
  else (if 122 < p0 then (some 0)
  else (some 1))
theorem c_Tokens_isLetter {p0 : Int} {σ : xSt} {r : Int} (hf : f_Tokens_isLetter p0 σ = some r) : Call (0 + 1) 111 [vI p0] σ ((tI σ) r).1 ((tI σ) r).2 := by
  unfold f_Tokens_isLetter at hf
  refine call_of (own := 9) (rk := 2) (cd := kX9_isLetter) (ls := [some (vI p0)]) (rT := (tI σ)) rfl rfl rfl rfl rfl ?_
  refine run_seg (k := 3) (s' := (if p0 < 97 then (16, [some (vI p0)], [], σ) else (6, [some (vI p0)], [], σ))) rfl ?_
  refine run_ite hf (fun _ hf => ?_) (fun _ hf => ?_)
  · refine run_seg (k := 1) (s' := (17, [some (vI p0)], [vI 0], σ)) rfl ?_
    exact run_ret hf rfl
  · refine run_seg (k := 3) (s' := (if 122 < p0 then (16, [some (vI p0)], [], σ) else (12, [some (vI p0)], [], σ))) rfl ?_
    refine run_ite hf (fun _ hf => ?_) (fun _ hf => ?_)
    · refine run_seg (k := 1) (s' := (17, [some (vI p0)], [vI 0], σ)) rfl ?_
      exact run_ret hf rfl
    · refine run_seg (k := 2) (s' := (17, [some (vI p0)], [vI 1], σ)) rfl ?_
      exact run_ret hf rfl
/-- BentPenny$Tokens.isDigit(I)Z -/
def f_Tokens_isDigit (p0 : Int) (σ : xSt) : Option (Int) :=
  if p0 < 48 then (some 0)
  else (if 57 < p0 then (some 0)
  else (some 1))
theorem c_Tokens_isDigit {p0 : Int} {σ : xSt} {r : Int} (hf : f_Tokens_isDigit p0 σ = some r) : Call (0 + 1) 112 [vI p0] σ ((tI σ) r).1 ((tI σ) r).2 := by
  unfold f_Tokens_isDigit at hf
  refine call_of (own := 9) (rk := 2) (cd := kX9_isDigit) (ls := [some (vI p0)]) (rT := (tI σ)) rfl rfl rfl rfl rfl ?_
  refine run_seg (k := 3) (s' := (if p0 < 48 then (16, [some (vI p0)], [], σ) else (6, [some (vI p0)], [], σ))) rfl ?_
  refine run_ite hf (fun _ hf => ?_) (fun _ hf => ?_)
  · refine run_seg (k := 1) (s' := (17, [some (vI p0)], [vI 0], σ)) rfl ?_
    exact run_ret hf rfl
  · refine run_seg (k := 3) (s' := (if 57 < p0 then (16, [some (vI p0)], [], σ) else (12, [some (vI p0)], [], σ))) rfl ?_
    refine run_ite hf (fun _ hf => ?_) (fun _ hf => ?_)
    · refine run_seg (k := 1) (s' := (17, [some (vI p0)], [vI 0], σ)) rfl ?_
      exact run_ret hf rfl
    · refine run_seg (k := 2) (s' := (17, [some (vI p0)], [vI 1], σ)) rfl ?_
      exact run_ret hf rfl
/-- BentPenny$Tokens.pack(II)I -/
def f_Tokens_pack (p0 : Int) (p1 : Int) (σ : xSt) : Option (Int) :=
  some (w32 ((w32 ((w32 ((w32 (p0 * 32)) + p1)) - 97)) + 1))
theorem c_Tokens_pack {p0 : Int} {p1 : Int} {σ : xSt} {r : Int} (hf : f_Tokens_pack p0 p1 σ = some r) : Call (0 + 1) 114 [vI p0, vI p1] σ ((tI σ) r).1 ((tI σ) r).2 := by
  unfold f_Tokens_pack at hf
  refine call_of (own := 9) (rk := 1) (cd := kX9_pack) (ls := [some (vI p0), some (vI p1)]) (rT := (tI σ)) rfl rfl rfl rfl rfl ?_
  refine run_seg (k := 9) (s' := (11, [some (vI p0), some (vI p1)], [vI (w32 ((w32 ((w32 ((w32 (p0 * 32)) + p1)) - 97)) + 1))], σ)) rfl ?_
  exact run_ret hf rfl
def f_Tokens_isToldWord_4 : Nat → Int → Int → Int → xSt → Option (Int)
  | 0, _, _, _, _ => none
  | n + 1, l0, l1, l2, σ =>
    if l2 < slen 154 then (if 0 ≤ l2 ∧ l2 < slen 154 then (
    if sch 154 l2 = 32 then (if l1 = l0 then (some 1)
    else (xlet (w32 (l2 + 1)) fun x1 =>
    f_Tokens_isToldWord_4 n l0 0 x1 σ))
    else (if 0 ≤ l2 ∧ l2 < slen 154 then (
    xbR (f_Tokens_pack l1 (sch 154 l2) σ) fun r2 =>
    xlet (w32 (l2 + 1)) fun x3 =>
    f_Tokens_isToldWord_4 n l0 r2 x3 σ) else none)) else none)
    else (some 0)
/-- BentPenny$Tokens.isToldWord(I)Z -/
def f_Tokens_isToldWord (p0 : Int) (σ : xSt) : Option (Int) :=
  f_Tokens_isToldWord_4 1000000 p0 0 0 σ
theorem r_Tokens_isToldWord_4 : ∀ (n : Nat) {l0 : Int} {l1 : Int} {l2 : Int} {σ : xSt} {r : Int}, f_Tokens_isToldWord_4 n l0 l1 l2 σ = some r → Run 1 9 2 kX9_isToldWord (4, [some (vI l0), some (vI l1), some (vI l2)], [], σ) ((tI σ) r) := by
  intro n
  induction n with
  | zero =>
    intro _ _ _ _ _ h
    exact nomatch (show (none : Option (Int)) = some _ from h)
  | succ n ih =>
    intro l0 l1 l2 σ r hf
    unfold f_Tokens_isToldWord_4 at hf
    refine run_seg (k := 4) (s' := (if l2 < slen 154 then (13, [some (vI l0), some (vI l1), some (vI l2)], [], σ) else (53, [some (vI l0), some (vI l1), some (vI l2)], [], σ))) rfl ?_
    refine run_ite hf (fun _ hf => ?_) (fun _ hf => ?_)
    · refine run_seg (k := 2) (s' := (16, [some (vI l0), some (vI l1), some (vI l2)], [vI l2, vR 154], σ)) rfl ?_
      refine run_guard (s' := (19, [some (vI l0), some (vI l1), some (vI l2)], [vI (sch 154 l2)], σ)) hf rfl (fun hf => ?_)
      refine run_seg (k := 2) (s' := (if sch 154 l2 = 32 then (38, [some (vI l0), some (vI l1), some (vI l2)], [], σ) else (24, [some (vI l0), some (vI l1), some (vI l2)], [], σ))) rfl ?_
      refine run_ite hf (fun _ hf => ?_) (fun _ hf => ?_)
      · refine run_seg (k := 3) (s' := (if l1 = l0 then (43, [some (vI l0), some (vI l1), some (vI l2)], [], σ) else (45, [some (vI l0), some (vI l1), some (vI l2)], [], σ))) rfl ?_
        refine run_ite hf (fun _ hf => ?_) (fun _ hf => ?_)
        · refine run_seg (k := 1) (s' := (44, [some (vI l0), some (vI l1), some (vI l2)], [vI 1], σ)) rfl ?_
          exact run_ret hf rfl
        · refine run_seg (k := 3) (s' := (50, [some (vI l0), some (vI 0), some (vI (w32 (l2 + 1)))], [], σ)) rfl ?_
          refine run_let (fun x1 => (50, [some (vI l0), some (vI 0), some (vI x1)], [], σ)) hf (fun x1 hf => ?_)
          refine run_seg (k := 1) (s' := (4, [some (vI l0), some (vI 0), some (vI x1)], [], σ)) rfl ?_
          exact ih hf
      · refine run_seg (k := 3) (s' := (28, [some (vI l0), some (vI l1), some (vI l2)], [vI l2, vR 154, vI l1], σ)) rfl ?_
        refine run_guard (s' := (31, [some (vI l0), some (vI l1), some (vI l2)], [vI (sch 154 l2), vI l1], σ)) hf rfl (fun hf => ?_)
        refine run_callN (w := fun a => some (vI a)) (m := 114) (as := [vI l1, vI (sch 154 l2)]) (pc := 34) (ls := [some (vI l0), some (vI l1), some (vI l2)]) (st' := []) (σ := σ) hf rfl (fun _ h => (c_Tokens_pack h).mono (by decide)) (fun r2 hf => ?_)
        refine run_seg (k := 3) (s' := (50, [some (vI l0), some (vI r2), some (vI (w32 (l2 + 1)))], [], σ)) rfl ?_
        refine run_let (fun x3 => (50, [some (vI l0), some (vI r2), some (vI x3)], [], σ)) hf (fun x3 hf => ?_)
        refine run_seg (k := 1) (s' := (4, [some (vI l0), some (vI r2), some (vI x3)], [], σ)) rfl ?_
        exact ih hf
    · refine run_seg (k := 1) (s' := (54, [some (vI l0), some (vI l1), some (vI l2)], [vI 0], σ)) rfl ?_
      exact run_ret hf rfl
theorem c_Tokens_isToldWord {p0 : Int} {σ : xSt} {r : Int} (hf : f_Tokens_isToldWord p0 σ = some r) : Call (1 + 1) 115 [vI p0] σ ((tI σ) r).1 ((tI σ) r).2 := by
  unfold f_Tokens_isToldWord at hf
  refine call_of (own := 9) (rk := 2) (cd := kX9_isToldWord) (ls := [some (vI p0), none, none]) (rT := (tI σ)) rfl rfl rfl rfl rfl ?_
  refine run_seg (k := 4) (s' := (4, [some (vI p0), some (vI 0), some (vI 0)], [], σ)) rfl ?_
  exact r_Tokens_isToldWord_4 1000000 hf
/-- BentPenny$Tokens.add(III)V -/
def f_Tokens_add (p1 : Int) (p2 : Int) (p3 : Int) (σ : xSt) : Option (xSt) :=
  xbR (f_X_isWithin (σ 2 4) 641 σ) fun r1 =>
  if r1 = 0 then (some σ)
  else (if 0 ≤ σ 2 4 ∧ σ 2 4 < 641 then (
  xlet (upS σ 3 (σ 2 4).toNat p1) fun σ2 =>
  if 0 ≤ σ2 2 4 ∧ σ2 2 4 < 641 then (
  xlet (upS σ2 4 (σ2 2 4).toNat p2) fun σ3 =>
  if 0 ≤ σ3 2 4 ∧ σ3 2 4 < 641 then (
  xlet (upS σ3 5 (σ3 2 4).toNat p3) fun σ4 =>
  xlet (upS σ4 2 4 (w32 ((σ4 2 4) + 1))) fun σ5 =>
  some σ5) else none) else none) else none)
theorem c_Tokens_add {p1 : Int} {p2 : Int} {p3 : Int} {σ : xSt} {r : xSt} (hf : f_Tokens_add p1 p2 p3 σ = some r) : Call (1 + 1) 108 [vR 2, vI p1, vI p2, vI p3] σ (tV r).1 (tV r).2 := by
  unfold f_Tokens_add at hf
  refine call_of (own := 9) (rk := 0) (cd := kX9_add) (ls := [some (vR 2), some (vI p1), some (vI p2), some (vI p3)]) (rT := tV) rfl rfl rfl rfl rfl ?_
  refine run_seg (k := 5) (s' := (9, [some (vR 2), some (vI p1), some (vI p2), some (vI p3)], [vI 641, vI (σ 2 4)], σ)) rfl ?_
  refine run_callN (w := fun a => some (vI a)) (m := 207) (as := [vI (σ 2 4), vI 641]) (pc := 12) (ls := [some (vR 2), some (vI p1), some (vI p2), some (vI p3)]) (st' := []) (σ := σ) hf rfl (fun _ h => (c_X_isWithin h).mono (by decide)) (fun r1 hf => ?_)
  refine run_seg (k := 1) (s' := (if r1 = 0 then (55, [some (vR 2), some (vI p1), some (vI p2), some (vI p3)], [], σ) else (15, [some (vR 2), some (vI p1), some (vI p2), some (vI p3)], [], σ))) rfl ?_
  refine run_ite hf (fun _ hf => ?_) (fun _ hf => ?_)
  · exact run_ret hf rfl
  · refine run_seg (k := 5) (s' := (24, [some (vR 2), some (vI p1), some (vI p2), some (vI p3)], [vI p1, vI (σ 2 4), vR 3], σ)) rfl ?_
    refine run_guard (s' := (25, [some (vR 2), some (vI p1), some (vI p2), some (vI p3)], [], upS σ 3 (σ 2 4).toNat p1)) hf rfl (fun hf => ?_)
    refine run_let (fun σ2 => (25, [some (vR 2), some (vI p1), some (vI p2), some (vI p3)], [], σ2)) hf (fun σ2 hf => ?_)
    refine run_seg (k := 5) (s' := (34, [some (vR 2), some (vI p1), some (vI p2), some (vI p3)], [vI p2, vI (σ2 2 4), vR 4], σ2)) rfl ?_
    refine run_guard (s' := (35, [some (vR 2), some (vI p1), some (vI p2), some (vI p3)], [], upS σ2 4 (σ2 2 4).toNat p2)) hf rfl (fun hf => ?_)
    refine run_let (fun σ3 => (35, [some (vR 2), some (vI p1), some (vI p2), some (vI p3)], [], σ3)) hf (fun σ3 hf => ?_)
    refine run_seg (k := 5) (s' := (44, [some (vR 2), some (vI p1), some (vI p2), some (vI p3)], [vI p3, vI (σ3 2 4), vR 5], σ3)) rfl ?_
    refine run_guard (s' := (45, [some (vR 2), some (vI p1), some (vI p2), some (vI p3)], [], upS σ3 5 (σ3 2 4).toNat p3)) hf rfl (fun hf => ?_)
    refine run_let (fun σ4 => (45, [some (vR 2), some (vI p1), some (vI p2), some (vI p3)], [], σ4)) hf (fun σ4 hf => ?_)
    refine run_seg (k := 6) (s' := (55, [some (vR 2), some (vI p1), some (vI p2), some (vI p3)], [], upS σ4 2 4 (w32 ((σ4 2 4) + 1)))) rfl ?_
    refine run_let (fun σ5 => (55, [some (vR 2), some (vI p1), some (vI p2), some (vI p3)], [], σ5)) hf (fun σ5 hf => ?_)
    exact run_ret hf rfl
def f_Tokens_readRun_117 (l1 : Int) (l5 : Int) (l7 : Int) (s0 : Int) (σ : xSt) : Option (Int × xSt) :=
  xbR (f_Tokens_add s0 l5 l1 σ) fun σ12 =>
  some (l7, σ12)
def f_Tokens_readRun_147 (l1 : Int) (l7 : Int) (σ : xSt) : Option (Int × xSt) :=
  xbR (f_Tokens_add 2 0 l1 σ) fun σ13 =>
  some (l7, σ13)
def f_Tokens_readRun_126 (l1 : Int) (l3 : Int) (l4 : Int) (l6 : Int) (l7 : Int) (σ : xSt) : Option (Int × xSt) :=
  if l3 = 0 then (if 3 < l4 then (f_Tokens_readRun_147 l1 l7 σ)
  else (xbR (f_Tokens_add 5 l6 l1 σ) fun σ11 =>
  some (l7, σ11)))
  else (f_Tokens_readRun_147 l1 l7 σ)
def f_Tokens_readRun_92 (l1 : Int) (l3 : Int) (l4 : Int) (l5 : Int) (l6 : Int) (l7 : Int) (σ : xSt) : Option (Int × xSt) :=
  if l4 = 0 then (if 6 < l3 then (f_Tokens_readRun_126 l1 l3 l4 l6 l7 σ)
  else (xbR (f_Tokens_isToldWord l5 σ) fun r10 =>
  if r10 = 0 then (f_Tokens_readRun_117 l1 l5 l7 4 σ)
  else (f_Tokens_readRun_117 l1 l5 l7 3 σ)))
  else (f_Tokens_readRun_126 l1 l3 l4 l6 l7 σ)
def f_Tokens_readRun_14 : Nat → Int → Int → Int → Int → Int → Int → Int → xSt → Option (Int × xSt)
  | 0, _, _, _, _, _, _, _, _ => none
  | n + 1, l1, l2, l3, l4, l5, l6, l7, σ =>
    if l7 < l2 then (if l7 < 640 then (if 0 ≤ l7 ∧ l7 < 640 then (
    xlet (σ 1 l7.toNat) fun x1 =>
    xbR (f_Tokens_isLetter x1 σ) fun r2 =>
    if r2 = 0 then (xbR (f_Tokens_isDigit x1 σ) fun r3 =>
    if r3 = 0 then (f_Tokens_readRun_92 l1 l3 l4 l5 l6 l7 σ)
    else (xlet (w32 (l4 + 1)) fun x4 =>
    xlet (w32 ((w32 ((w32 (l6 * 10)) + x1)) - 48)) fun x5 =>
    xlet (w32 (l7 + 1)) fun x6 =>
    f_Tokens_readRun_14 n l1 l2 l3 x4 l5 x5 x6 σ))
    else (xlet (w32 (l3 + 1)) fun x7 =>
    xbR (f_Tokens_pack l5 x1 σ) fun r8 =>
    xlet (w32 (l7 + 1)) fun x9 =>
    f_Tokens_readRun_14 n l1 l2 x7 l4 r8 l6 x9 σ)) else none)
    else (f_Tokens_readRun_92 l1 l3 l4 l5 l6 l7 σ))
    else (f_Tokens_readRun_92 l1 l3 l4 l5 l6 l7 σ)
/-- BentPenny$Tokens.readRun(II)I -/
def f_Tokens_readRun (p1 : Int) (p2 : Int) (σ : xSt) : Option (Int × xSt) :=
  f_Tokens_readRun_14 1000000 p1 p2 0 0 0 0 p1 σ
theorem r_Tokens_readRun_117 {l1 : Int} {l5 : Int} {l7 : Int} {s0 : Int} {g0 : Option xV} {g2 : Option xV} {g3 : Option xV} {g4 : Option xV} {g6 : Option xV} {g8 : Option xV} {σ : xSt} {r : Int × xSt} (hf : f_Tokens_readRun_117 l1 l5 l7 s0 σ = some r) : Run 2 9 1 kX9_readRun (117, [g0, some (vI l1), g2, g3, g4, some (vI l5), g6, some (vI l7), g8], [vI s0, vR 2], σ) (tIW r) := by
  unfold f_Tokens_readRun_117 at hf
  refine run_seg (k := 2) (s' := (120, [g0, some (vI l1), g2, g3, g4, some (vI l5), g6, some (vI l7), g8], [vI l1, vI l5, vI s0, vR 2], σ)) rfl ?_
  refine run_callV (m := 108) (as := [vR 2, vI s0, vI l5, vI l1]) (pc := 123) (ls := [g0, some (vI l1), g2, g3, g4, some (vI l5), g6, some (vI l7), g8]) (st' := []) (σ := σ) hf rfl (fun _ h => (c_Tokens_add h).mono (by decide)) (fun σ12 hf => ?_)
  refine run_seg (k := 2) (s' := (156, [g0, some (vI l1), g2, g3, g4, some (vI l5), g6, some (vI l7), g8], [vI l7], σ12)) rfl ?_
  exact run_ret hf rfl
theorem r_Tokens_readRun_147 {l1 : Int} {l7 : Int} {g2 : Option xV} {g3 : Option xV} {g4 : Option xV} {g5 : Option xV} {g6 : Option xV} {g8 : Option xV} {σ : xSt} {r : Int × xSt} (hf : f_Tokens_readRun_147 l1 l7 σ = some r) : Run 2 9 1 kX9_readRun (147, [some (vR 2), some (vI l1), g2, g3, g4, g5, g6, some (vI l7), g8], [], σ) (tIW r) := by
  unfold f_Tokens_readRun_147 at hf
  refine run_seg (k := 4) (s' := (151, [some (vR 2), some (vI l1), g2, g3, g4, g5, g6, some (vI l7), g8], [vI l1, vI 0, vI 2, vR 2], σ)) rfl ?_
  refine run_callV (m := 108) (as := [vR 2, vI 2, vI 0, vI l1]) (pc := 154) (ls := [some (vR 2), some (vI l1), g2, g3, g4, g5, g6, some (vI l7), g8]) (st' := []) (σ := σ) hf rfl (fun _ h => (c_Tokens_add h).mono (by decide)) (fun σ13 hf => ?_)
  refine run_seg (k := 1) (s' := (156, [some (vR 2), some (vI l1), g2, g3, g4, g5, g6, some (vI l7), g8], [vI l7], σ13)) rfl ?_
  exact run_ret hf rfl
theorem r_Tokens_readRun_126 {l1 : Int} {l3 : Int} {l4 : Int} {l6 : Int} {l7 : Int} {g2 : Option xV} {g5 : Option xV} {g8 : Option xV} {σ : xSt} {r : Int × xSt} (hf : f_Tokens_readRun_126 l1 l3 l4 l6 l7 σ = some r) : Run 2 9 1 kX9_readRun (126, [some (vR 2), some (vI l1), g2, some (vI l3), some (vI l4), g5, some (vI l6), some (vI l7), g8], [], σ) (tIW r) := by
  unfold f_Tokens_readRun_126 at hf
  refine run_seg (k := 2) (s' := (if l3 = 0 then (130, [some (vR 2), some (vI l1), g2, some (vI l3), some (vI l4), g5, some (vI l6), some (vI l7), g8], [], σ) else (147, [some (vR 2), some (vI l1), g2, some (vI l3), some (vI l4), g5, some (vI l6), some (vI l7), g8], [], σ))) rfl ?_
  refine run_ite hf (fun _ hf => ?_) (fun _ hf => ?_)
  · refine run_seg (k := 3) (s' := (if 3 < l4 then (147, [some (vR 2), some (vI l1), g2, some (vI l3), some (vI l4), g5, some (vI l6), some (vI l7), g8], [], σ) else (136, [some (vR 2), some (vI l1), g2, some (vI l3), some (vI l4), g5, some (vI l6), some (vI l7), g8], [], σ))) rfl ?_
    refine run_ite hf (fun _ hf => ?_) (fun _ hf => ?_)
    · exact r_Tokens_readRun_147 hf
    · refine run_seg (k := 4) (s' := (141, [some (vR 2), some (vI l1), g2, some (vI l3), some (vI l4), g5, some (vI l6), some (vI l7), g8], [vI l1, vI l6, vI 5, vR 2], σ)) rfl ?_
      refine run_callV (m := 108) (as := [vR 2, vI 5, vI l6, vI l1]) (pc := 144) (ls := [some (vR 2), some (vI l1), g2, some (vI l3), some (vI l4), g5, some (vI l6), some (vI l7), g8]) (st' := []) (σ := σ) hf rfl (fun _ h => (c_Tokens_add h).mono (by decide)) (fun σ11 hf => ?_)
      refine run_seg (k := 2) (s' := (156, [some (vR 2), some (vI l1), g2, some (vI l3), some (vI l4), g5, some (vI l6), some (vI l7), g8], [vI l7], σ11)) rfl ?_
      exact run_ret hf rfl
  · exact r_Tokens_readRun_147 hf
theorem r_Tokens_readRun_92 {l1 : Int} {l3 : Int} {l4 : Int} {l5 : Int} {l6 : Int} {l7 : Int} {g2 : Option xV} {g8 : Option xV} {σ : xSt} {r : Int × xSt} (hf : f_Tokens_readRun_92 l1 l3 l4 l5 l6 l7 σ = some r) : Run 2 9 1 kX9_readRun (92, [some (vR 2), some (vI l1), g2, some (vI l3), some (vI l4), some (vI l5), some (vI l6), some (vI l7), g8], [], σ) (tIW r) := by
  unfold f_Tokens_readRun_92 at hf
  refine run_seg (k := 2) (s' := (if l4 = 0 then (97, [some (vR 2), some (vI l1), g2, some (vI l3), some (vI l4), some (vI l5), some (vI l6), some (vI l7), g8], [], σ) else (126, [some (vR 2), some (vI l1), g2, some (vI l3), some (vI l4), some (vI l5), some (vI l6), some (vI l7), g8], [], σ))) rfl ?_
  refine run_ite hf (fun _ hf => ?_) (fun _ hf => ?_)
  · refine run_seg (k := 3) (s' := (if 6 < l3 then (126, [some (vR 2), some (vI l1), g2, some (vI l3), some (vI l4), some (vI l5), some (vI l6), some (vI l7), g8], [], σ) else (103, [some (vR 2), some (vI l1), g2, some (vI l3), some (vI l4), some (vI l5), some (vI l6), some (vI l7), g8], [], σ))) rfl ?_
    refine run_ite hf (fun _ hf => ?_) (fun _ hf => ?_)
    · exact r_Tokens_readRun_126 hf
    · refine run_seg (k := 2) (s' := (106, [some (vR 2), some (vI l1), g2, some (vI l3), some (vI l4), some (vI l5), some (vI l6), some (vI l7), g8], [vI l5, vR 2], σ)) rfl ?_
      refine run_callN (w := fun a => some (vI a)) (m := 115) (as := [vI l5]) (pc := 109) (ls := [some (vR 2), some (vI l1), g2, some (vI l3), some (vI l4), some (vI l5), some (vI l6), some (vI l7), g8]) (st' := [vR 2]) (σ := σ) hf rfl (fun _ h => (c_Tokens_isToldWord h).mono (by decide)) (fun r10 hf => ?_)
      refine run_seg (k := 1) (s' := (if r10 = 0 then (116, [some (vR 2), some (vI l1), g2, some (vI l3), some (vI l4), some (vI l5), some (vI l6), some (vI l7), g8], [vR 2], σ) else (112, [some (vR 2), some (vI l1), g2, some (vI l3), some (vI l4), some (vI l5), some (vI l6), some (vI l7), g8], [vR 2], σ))) rfl ?_
      refine run_ite hf (fun _ hf => ?_) (fun _ hf => ?_)
      · refine run_seg (k := 1) (s' := (117, [some (vR 2), some (vI l1), g2, some (vI l3), some (vI l4), some (vI l5), some (vI l6), some (vI l7), g8], [vI 4, vR 2], σ)) rfl ?_
        exact r_Tokens_readRun_117 hf
      · refine run_seg (k := 2) (s' := (117, [some (vR 2), some (vI l1), g2, some (vI l3), some (vI l4), some (vI l5), some (vI l6), some (vI l7), g8], [vI 3, vR 2], σ)) rfl ?_
        exact r_Tokens_readRun_117 hf
  · exact r_Tokens_readRun_126 hf
theorem r_Tokens_readRun_14 : ∀ (n : Nat) {l1 : Int} {l2 : Int} {l3 : Int} {l4 : Int} {l5 : Int} {l6 : Int} {l7 : Int} {g8 : Option xV} {σ : xSt} {r : Int × xSt}, f_Tokens_readRun_14 n l1 l2 l3 l4 l5 l6 l7 σ = some r → Run 2 9 1 kX9_readRun (14, [some (vR 2), some (vI l1), some (vI l2), some (vI l3), some (vI l4), some (vI l5), some (vI l6), some (vI l7), g8], [], σ) (tIW r) := by
  intro n
  induction n with
  | zero =>
    intro _ _ _ _ _ _ _ _ _ _ h
    exact nomatch (show (none : Option (Int × xSt)) = some _ from h)
  | succ n ih =>
    intro l1 l2 l3 l4 l5 l6 l7 g8 σ r hf
    unfold f_Tokens_readRun_14 at hf
    refine run_seg (k := 3) (s' := (if l7 < l2 then (20, [some (vR 2), some (vI l1), some (vI l2), some (vI l3), some (vI l4), some (vI l5), some (vI l6), some (vI l7), g8], [], σ) else (92, [some (vR 2), some (vI l1), some (vI l2), some (vI l3), some (vI l4), some (vI l5), some (vI l6), some (vI l7), g8], [], σ))) rfl ?_
    refine run_ite hf (fun _ hf => ?_) (fun _ hf => ?_)
    · refine run_seg (k := 5) (s' := (if l7 < 640 then (30, [some (vR 2), some (vI l1), some (vI l2), some (vI l3), some (vI l4), some (vI l5), some (vI l6), some (vI l7), g8], [], σ) else (92, [some (vR 2), some (vI l1), some (vI l2), some (vI l3), some (vI l4), some (vI l5), some (vI l6), some (vI l7), g8], [], σ))) rfl ?_
      refine run_ite hf (fun _ hf => ?_) (fun _ hf => ?_)
      · refine run_seg (k := 3) (s' := (36, [some (vR 2), some (vI l1), some (vI l2), some (vI l3), some (vI l4), some (vI l5), some (vI l6), some (vI l7), g8], [vI l7, vR 1], σ)) rfl ?_
        refine run_guard (s' := (37, [some (vR 2), some (vI l1), some (vI l2), some (vI l3), some (vI l4), some (vI l5), some (vI l6), some (vI l7), g8], [vI (σ 1 l7.toNat)], σ)) hf rfl (fun hf => ?_)
        refine run_seg (k := 1) (s' := (39, [some (vR 2), some (vI l1), some (vI l2), some (vI l3), some (vI l4), some (vI l5), some (vI l6), some (vI l7), some (vI (σ 1 l7.toNat))], [], σ)) rfl ?_
        refine run_let (fun x1 => (39, [some (vR 2), some (vI l1), some (vI l2), some (vI l3), some (vI l4), some (vI l5), some (vI l6), some (vI l7), some (vI x1)], [], σ)) hf (fun x1 hf => ?_)
        refine run_seg (k := 1) (s' := (41, [some (vR 2), some (vI l1), some (vI l2), some (vI l3), some (vI l4), some (vI l5), some (vI l6), some (vI l7), some (vI x1)], [vI x1], σ)) rfl ?_
        refine run_callN (w := fun a => some (vI a)) (m := 111) (as := [vI x1]) (pc := 44) (ls := [some (vR 2), some (vI l1), some (vI l2), some (vI l3), some (vI l4), some (vI l5), some (vI l6), some (vI l7), some (vI x1)]) (st' := []) (σ := σ) hf rfl (fun _ h => (c_Tokens_isLetter h).mono (by decide)) (fun r2 hf => ?_)
        refine run_seg (k := 1) (s' := (if r2 = 0 then (62, [some (vR 2), some (vI l1), some (vI l2), some (vI l3), some (vI l4), some (vI l5), some (vI l6), some (vI l7), some (vI x1)], [], σ) else (47, [some (vR 2), some (vI l1), some (vI l2), some (vI l3), some (vI l4), some (vI l5), some (vI l6), some (vI l7), some (vI x1)], [], σ))) rfl ?_
        refine run_ite hf (fun _ hf => ?_) (fun _ hf => ?_)
        · refine run_seg (k := 1) (s' := (64, [some (vR 2), some (vI l1), some (vI l2), some (vI l3), some (vI l4), some (vI l5), some (vI l6), some (vI l7), some (vI x1)], [vI x1], σ)) rfl ?_
          refine run_callN (w := fun a => some (vI a)) (m := 112) (as := [vI x1]) (pc := 67) (ls := [some (vR 2), some (vI l1), some (vI l2), some (vI l3), some (vI l4), some (vI l5), some (vI l6), some (vI l7), some (vI x1)]) (st' := []) (σ := σ) hf rfl (fun _ h => (c_Tokens_isDigit h).mono (by decide)) (fun r3 hf => ?_)
          refine run_seg (k := 1) (s' := (if r3 = 0 then (92, [some (vR 2), some (vI l1), some (vI l2), some (vI l3), some (vI l4), some (vI l5), some (vI l6), some (vI l7), some (vI x1)], [], σ) else (70, [some (vR 2), some (vI l1), some (vI l2), some (vI l3), some (vI l4), some (vI l5), some (vI l6), some (vI l7), some (vI x1)], [], σ))) rfl ?_
          refine run_ite hf (fun _ hf => ?_) (fun _ hf => ?_)
          · exact r_Tokens_readRun_92 hf
          · refine run_seg (k := 1) (s' := (73, [some (vR 2), some (vI l1), some (vI l2), some (vI l3), some (vI (w32 (l4 + 1))), some (vI l5), some (vI l6), some (vI l7), some (vI x1)], [], σ)) rfl ?_
            refine run_let (fun x4 => (73, [some (vR 2), some (vI l1), some (vI l2), some (vI l3), some (vI x4), some (vI l5), some (vI l6), some (vI l7), some (vI x1)], [], σ)) hf (fun x4 hf => ?_)
            refine run_seg (k := 8) (s' := (86, [some (vR 2), some (vI l1), some (vI l2), some (vI l3), some (vI x4), some (vI l5), some (vI (w32 ((w32 ((w32 (l6 * 10)) + x1)) - 48))), some (vI l7), some (vI x1)], [], σ)) rfl ?_
            refine run_let (fun x5 => (86, [some (vR 2), some (vI l1), some (vI l2), some (vI l3), some (vI x4), some (vI l5), some (vI x5), some (vI l7), some (vI x1)], [], σ)) hf (fun x5 hf => ?_)
            refine run_seg (k := 1) (s' := (89, [some (vR 2), some (vI l1), some (vI l2), some (vI l3), some (vI x4), some (vI l5), some (vI x5), some (vI (w32 (l7 + 1))), some (vI x1)], [], σ)) rfl ?_
            refine run_let (fun x6 => (89, [some (vR 2), some (vI l1), some (vI l2), some (vI l3), some (vI x4), some (vI l5), some (vI x5), some (vI x6), some (vI x1)], [], σ)) hf (fun x6 hf => ?_)
            refine run_seg (k := 1) (s' := (14, [some (vR 2), some (vI l1), some (vI l2), some (vI l3), some (vI x4), some (vI l5), some (vI x5), some (vI x6), some (vI x1)], [], σ)) rfl ?_
            exact ih hf
        · refine run_seg (k := 1) (s' := (50, [some (vR 2), some (vI l1), some (vI l2), some (vI (w32 (l3 + 1))), some (vI l4), some (vI l5), some (vI l6), some (vI l7), some (vI x1)], [], σ)) rfl ?_
          refine run_let (fun x7 => (50, [some (vR 2), some (vI l1), some (vI l2), some (vI x7), some (vI l4), some (vI l5), some (vI l6), some (vI l7), some (vI x1)], [], σ)) hf (fun x7 hf => ?_)
          refine run_seg (k := 2) (s' := (54, [some (vR 2), some (vI l1), some (vI l2), some (vI x7), some (vI l4), some (vI l5), some (vI l6), some (vI l7), some (vI x1)], [vI x1, vI l5], σ)) rfl ?_
          refine run_callN (w := fun a => some (vI a)) (m := 114) (as := [vI l5, vI x1]) (pc := 57) (ls := [some (vR 2), some (vI l1), some (vI l2), some (vI x7), some (vI l4), some (vI l5), some (vI l6), some (vI l7), some (vI x1)]) (st' := []) (σ := σ) hf rfl (fun _ h => (c_Tokens_pack h).mono (by decide)) (fun r8 hf => ?_)
          refine run_seg (k := 3) (s' := (89, [some (vR 2), some (vI l1), some (vI l2), some (vI x7), some (vI l4), some (vI r8), some (vI l6), some (vI (w32 (l7 + 1))), some (vI x1)], [], σ)) rfl ?_
          refine run_let (fun x9 => (89, [some (vR 2), some (vI l1), some (vI l2), some (vI x7), some (vI l4), some (vI r8), some (vI l6), some (vI x9), some (vI x1)], [], σ)) hf (fun x9 hf => ?_)
          refine run_seg (k := 1) (s' := (14, [some (vR 2), some (vI l1), some (vI l2), some (vI x7), some (vI l4), some (vI r8), some (vI l6), some (vI x9), some (vI x1)], [], σ)) rfl ?_
          exact ih hf
      · exact r_Tokens_readRun_92 hf
    · exact r_Tokens_readRun_92 hf
theorem c_Tokens_readRun {p1 : Int} {p2 : Int} {σ : xSt} {r : Int × xSt} (hf : f_Tokens_readRun p1 p2 σ = some r) : Call (2 + 1) 110 [vR 2, vI p1, vI p2] σ (tIW r).1 (tIW r).2 := by
  unfold f_Tokens_readRun at hf
  refine call_of (own := 9) (rk := 1) (cd := kX9_readRun) (ls := [some (vR 2), some (vI p1), some (vI p2), none, none, none, none, none, none]) (rT := tIW) rfl rfl rfl rfl rfl ?_
  refine run_seg (k := 10) (s' := (14, [some (vR 2), some (vI p1), some (vI p2), some (vI 0), some (vI 0), some (vI 0), some (vI 0), some (vI p1), none], [], σ)) rfl ?_
  exact r_Tokens_readRun_14 1000000 hf
/-- BentPenny$Tokens.isSign(I)Z -/
def f_Tokens_isSign (p0 : Int) (σ : xSt) : Option (Int) :=
  if p0 = 59 then (some 1)
  else (if p0 = 58 then (some 1)
  else (if p0 = 40 then (some 1)
  else (if p0 = 41 then (some 1)
  else (if p0 = 60 then (some 1)
  else (if p0 = 61 then (some 1)
  else (if p0 = 62 then (some 1)
  else (some 0)))))))
theorem c_Tokens_isSign {p0 : Int} {σ : xSt} {r : Int} (hf : f_Tokens_isSign p0 σ = some r) : Call (0 + 1) 113 [vI p0] σ ((tI σ) r).1 ((tI σ) r).2 := by
  unfold f_Tokens_isSign at hf
  refine call_of (own := 9) (rk := 2) (cd := kX9_isSign) (ls := [some (vI p0)]) (rT := (tI σ)) rfl rfl rfl rfl rfl ?_
  refine run_seg (k := 3) (s' := (if p0 = 59 then (42, [some (vI p0)], [], σ) else (6, [some (vI p0)], [], σ))) rfl ?_
  refine run_ite hf (fun _ hf => ?_) (fun _ hf => ?_)
  · refine run_seg (k := 2) (s' := (47, [some (vI p0)], [vI 1], σ)) rfl ?_
    exact run_ret hf rfl
  · refine run_seg (k := 3) (s' := (if p0 = 58 then (42, [some (vI p0)], [], σ) else (12, [some (vI p0)], [], σ))) rfl ?_
    refine run_ite hf (fun _ hf => ?_) (fun _ hf => ?_)
    · refine run_seg (k := 2) (s' := (47, [some (vI p0)], [vI 1], σ)) rfl ?_
      exact run_ret hf rfl
    · refine run_seg (k := 3) (s' := (if p0 = 40 then (42, [some (vI p0)], [], σ) else (18, [some (vI p0)], [], σ))) rfl ?_
      refine run_ite hf (fun _ hf => ?_) (fun _ hf => ?_)
      · refine run_seg (k := 2) (s' := (47, [some (vI p0)], [vI 1], σ)) rfl ?_
        exact run_ret hf rfl
      · refine run_seg (k := 3) (s' := (if p0 = 41 then (42, [some (vI p0)], [], σ) else (24, [some (vI p0)], [], σ))) rfl ?_
        refine run_ite hf (fun _ hf => ?_) (fun _ hf => ?_)
        · refine run_seg (k := 2) (s' := (47, [some (vI p0)], [vI 1], σ)) rfl ?_
          exact run_ret hf rfl
        · refine run_seg (k := 3) (s' := (if p0 = 60 then (42, [some (vI p0)], [], σ) else (30, [some (vI p0)], [], σ))) rfl ?_
          refine run_ite hf (fun _ hf => ?_) (fun _ hf => ?_)
          · refine run_seg (k := 2) (s' := (47, [some (vI p0)], [vI 1], σ)) rfl ?_
            exact run_ret hf rfl
          · refine run_seg (k := 3) (s' := (if p0 = 61 then (42, [some (vI p0)], [], σ) else (36, [some (vI p0)], [], σ))) rfl ?_
            refine run_ite hf (fun _ hf => ?_) (fun _ hf => ?_)
            · refine run_seg (k := 2) (s' := (47, [some (vI p0)], [vI 1], σ)) rfl ?_
              exact run_ret hf rfl
            · refine run_seg (k := 3) (s' := (if p0 = 62 then (42, [some (vI p0)], [], σ) else (46, [some (vI p0)], [], σ))) rfl ?_
              refine run_ite hf (fun _ hf => ?_) (fun _ hf => ?_)
              · refine run_seg (k := 2) (s' := (47, [some (vI p0)], [vI 1], σ)) rfl ?_
                exact run_ret hf rfl
              · refine run_seg (k := 1) (s' := (47, [some (vI p0)], [vI 0], σ)) rfl ?_
                exact run_ret hf rfl
def f_Tokens_readToken_38 (l1 : Int) (l2 : Int) (σ : xSt) : Option (Int × xSt) :=
  xbW (f_Tokens_readRun l1 l2 σ) fun r6 σ7 =>
  some (r6, σ7)
def f_Tokens_readToken_71 (l1 : Int) (l3 : Int) (s0 : Int) (σ : xSt) : Option (Int × xSt) :=
  xbR (f_Tokens_add s0 l3 l1 σ) fun σ5 =>
  some (w32 (l1 + 1), σ5)
def f_Tokens_readToken_23 (l1 : Int) (l2 : Int) (s0 : Int) (σ : xSt) : Option (Int × xSt) :=
  xbR (f_Tokens_isLetter s0 σ) fun r2 =>
  if r2 = 0 then (xbR (f_Tokens_isDigit s0 σ) fun r3 =>
  if r3 = 0 then (if s0 = 32 then (some (w32 (l1 + 1), σ))
  else (if s0 = 10 then (some (w32 (l1 + 1), σ))
  else (xbR (f_Tokens_isSign s0 σ) fun r4 =>
  if r4 = 0 then (f_Tokens_readToken_71 l1 s0 2 σ)
  else (f_Tokens_readToken_71 l1 s0 6 σ))))
  else (f_Tokens_readToken_38 l1 l2 σ))
  else (f_Tokens_readToken_38 l1 l2 σ)
/-- BentPenny$Tokens.readToken(II)I -/
def f_Tokens_readToken (p1 : Int) (p2 : Int) (σ : xSt) : Option (Int × xSt) :=
  xbR (f_X_isWithin p1 640 σ) fun r1 =>
  if r1 = 0 then (f_Tokens_readToken_23 p1 p2 32 σ)
  else (if 0 ≤ p1 ∧ p1 < 640 then (
  f_Tokens_readToken_23 p1 p2 (σ 1 p1.toNat) σ) else none)
theorem r_Tokens_readToken_38 {l1 : Int} {l2 : Int} {g3 : Option xV} {σ : xSt} {r : Int × xSt} (hf : f_Tokens_readToken_38 l1 l2 σ = some r) : Run 3 9 1 kX9_readToken (38, [some (vR 2), some (vI l1), some (vI l2), g3], [], σ) (tIW r) := by
  unfold f_Tokens_readToken_38 at hf
  refine run_seg (k := 3) (s' := (41, [some (vR 2), some (vI l1), some (vI l2), g3], [vI l2, vI l1, vR 2], σ)) rfl ?_
  refine run_callW (w := fun a => some (vI a)) (m := 110) (as := [vR 2, vI l1, vI l2]) (pc := 44) (ls := [some (vR 2), some (vI l1), some (vI l2), g3]) (st' := []) (σ := σ) hf rfl (fun _ _ h => (c_Tokens_readRun h).mono (by decide)) (fun r6 σ7 hf => ?_)
  exact run_ret hf rfl
theorem r_Tokens_readToken_71 {l1 : Int} {l3 : Int} {s0 : Int} {g0 : Option xV} {g2 : Option xV} {σ : xSt} {r : Int × xSt} (hf : f_Tokens_readToken_71 l1 l3 s0 σ = some r) : Run 3 9 1 kX9_readToken (71, [g0, some (vI l1), g2, some (vI l3)], [vI s0, vR 2], σ) (tIW r) := by
  unfold f_Tokens_readToken_71 at hf
  refine run_seg (k := 2) (s' := (73, [g0, some (vI l1), g2, some (vI l3)], [vI l1, vI l3, vI s0, vR 2], σ)) rfl ?_
  refine run_callV (m := 108) (as := [vR 2, vI s0, vI l3, vI l1]) (pc := 76) (ls := [g0, some (vI l1), g2, some (vI l3)]) (st' := []) (σ := σ) hf rfl (fun _ h => (c_Tokens_add h).mono (by decide)) (fun σ5 hf => ?_)
  refine run_seg (k := 3) (s' := (79, [g0, some (vI l1), g2, some (vI l3)], [vI (w32 (l1 + 1))], σ5)) rfl ?_
  exact run_ret hf rfl
theorem r_Tokens_readToken_23 {l1 : Int} {l2 : Int} {s0 : Int} {g3 : Option xV} {σ : xSt} {r : Int × xSt} (hf : f_Tokens_readToken_23 l1 l2 s0 σ = some r) : Run 3 9 1 kX9_readToken (23, [some (vR 2), some (vI l1), some (vI l2), g3], [vI s0], σ) (tIW r) := by
  unfold f_Tokens_readToken_23 at hf
  refine run_seg (k := 2) (s' := (25, [some (vR 2), some (vI l1), some (vI l2), some (vI s0)], [vI s0], σ)) rfl ?_
  refine run_callN (w := fun a => some (vI a)) (m := 111) (as := [vI s0]) (pc := 28) (ls := [some (vR 2), some (vI l1), some (vI l2), some (vI s0)]) (st' := []) (σ := σ) hf rfl (fun _ h => (c_Tokens_isLetter h).mono (by decide)) (fun r2 hf => ?_)
  refine run_seg (k := 1) (s' := (if r2 = 0 then (31, [some (vR 2), some (vI l1), some (vI l2), some (vI s0)], [], σ) else (38, [some (vR 2), some (vI l1), some (vI l2), some (vI s0)], [], σ))) rfl ?_
  refine run_ite hf (fun _ hf => ?_) (fun _ hf => ?_)
  · refine run_seg (k := 1) (s' := (32, [some (vR 2), some (vI l1), some (vI l2), some (vI s0)], [vI s0], σ)) rfl ?_
    refine run_callN (w := fun a => some (vI a)) (m := 112) (as := [vI s0]) (pc := 35) (ls := [some (vR 2), some (vI l1), some (vI l2), some (vI s0)]) (st' := []) (σ := σ) hf rfl (fun _ h => (c_Tokens_isDigit h).mono (by decide)) (fun r3 hf => ?_)
    refine run_seg (k := 1) (s' := (if r3 = 0 then (45, [some (vR 2), some (vI l1), some (vI l2), some (vI s0)], [], σ) else (38, [some (vR 2), some (vI l1), some (vI l2), some (vI s0)], [], σ))) rfl ?_
    refine run_ite hf (fun _ hf => ?_) (fun _ hf => ?_)
    · refine run_seg (k := 3) (s' := (if s0 = 32 then (76, [some (vR 2), some (vI l1), some (vI l2), some (vI s0)], [], σ) else (51, [some (vR 2), some (vI l1), some (vI l2), some (vI s0)], [], σ))) rfl ?_
      refine run_ite hf (fun _ hf => ?_) (fun _ hf => ?_)
      · refine run_seg (k := 3) (s' := (79, [some (vR 2), some (vI l1), some (vI l2), some (vI s0)], [vI (w32 (l1 + 1))], σ)) rfl ?_
        exact run_ret hf rfl
      · refine run_seg (k := 3) (s' := (if s0 = 10 then (76, [some (vR 2), some (vI l1), some (vI l2), some (vI s0)], [], σ) else (57, [some (vR 2), some (vI l1), some (vI l2), some (vI s0)], [], σ))) rfl ?_
        refine run_ite hf (fun _ hf => ?_) (fun _ hf => ?_)
        · refine run_seg (k := 3) (s' := (79, [some (vR 2), some (vI l1), some (vI l2), some (vI s0)], [vI (w32 (l1 + 1))], σ)) rfl ?_
          exact run_ret hf rfl
        · refine run_seg (k := 2) (s' := (59, [some (vR 2), some (vI l1), some (vI l2), some (vI s0)], [vI s0, vR 2], σ)) rfl ?_
          refine run_callN (w := fun a => some (vI a)) (m := 113) (as := [vI s0]) (pc := 62) (ls := [some (vR 2), some (vI l1), some (vI l2), some (vI s0)]) (st' := [vR 2]) (σ := σ) hf rfl (fun _ h => (c_Tokens_isSign h).mono (by decide)) (fun r4 hf => ?_)
          refine run_seg (k := 1) (s' := (if r4 = 0 then (70, [some (vR 2), some (vI l1), some (vI l2), some (vI s0)], [vR 2], σ) else (65, [some (vR 2), some (vI l1), some (vI l2), some (vI s0)], [vR 2], σ))) rfl ?_
          refine run_ite hf (fun _ hf => ?_) (fun _ hf => ?_)
          · refine run_seg (k := 1) (s' := (71, [some (vR 2), some (vI l1), some (vI l2), some (vI s0)], [vI 2, vR 2], σ)) rfl ?_
            exact r_Tokens_readToken_71 hf
          · refine run_seg (k := 2) (s' := (71, [some (vR 2), some (vI l1), some (vI l2), some (vI s0)], [vI 6, vR 2], σ)) rfl ?_
            exact r_Tokens_readToken_71 hf
    · exact r_Tokens_readToken_38 hf
  · exact r_Tokens_readToken_38 hf
theorem c_Tokens_readToken {p1 : Int} {p2 : Int} {σ : xSt} {r : Int × xSt} (hf : f_Tokens_readToken p1 p2 σ = some r) : Call (3 + 1) 109 [vR 2, vI p1, vI p2] σ (tIW r).1 (tIW r).2 := by
  unfold f_Tokens_readToken at hf
  refine call_of (own := 9) (rk := 1) (cd := kX9_readToken) (ls := [some (vR 2), some (vI p1), some (vI p2), none]) (rT := tIW) rfl rfl rfl rfl rfl ?_
  refine run_seg (k := 4) (s' := (6, [some (vR 2), some (vI p1), some (vI p2), none], [vI 640, vI p1], σ)) rfl ?_
  refine run_callN (w := fun a => some (vI a)) (m := 207) (as := [vI p1, vI 640]) (pc := 9) (ls := [some (vR 2), some (vI p1), some (vI p2), none]) (st' := []) (σ := σ) hf rfl (fun _ h => (c_X_isWithin h).mono (by decide)) (fun r1 hf => ?_)
  refine run_seg (k := 1) (s' := (if r1 = 0 then (21, [some (vR 2), some (vI p1), some (vI p2), none], [], σ) else (12, [some (vR 2), some (vI p1), some (vI p2), none], [], σ))) rfl ?_
  refine run_ite hf (fun _ hf => ?_) (fun _ hf => ?_)
  · refine run_seg (k := 1) (s' := (23, [some (vR 2), some (vI p1), some (vI p2), none], [vI 32], σ)) rfl ?_
    exact r_Tokens_readToken_23 hf
  · refine run_seg (k := 3) (s' := (17, [some (vR 2), some (vI p1), some (vI p2), none], [vI p1, vR 1], σ)) rfl ?_
    refine run_guard (s' := (18, [some (vR 2), some (vI p1), some (vI p2), none], [vI (σ 1 p1.toNat)], σ)) hf rfl (fun hf => ?_)
    refine run_seg (k := 1) (s' := (23, [some (vR 2), some (vI p1), some (vI p2), none], [vI (σ 1 p1.toNat)], σ)) rfl ?_
    exact r_Tokens_readToken_23 hf
/-- BentPenny$Tokens.step()V -/
def f_Tokens_step (σ : xSt) : Option (xSt) :=
  xbR (f_X_isWithin (w32 ((σ 2 5) + 1)) (σ 2 4) σ) fun r1 =>
  if r1 = 0 then (some σ)
  else (if w32 ((σ 2 5) + 1) < 641 then (xlet (upS σ 2 5 (w32 ((σ 2 5) + 1))) fun σ2 =>
  if 0 ≤ σ2 2 5 ∧ σ2 2 5 < 641 then (
  xlet (upS σ2 2 6 (σ2 3 (σ2 2 5).toNat)) fun σ3 =>
  if 0 ≤ σ3 2 5 ∧ σ3 2 5 < 641 then (
  xlet (upS σ3 2 7 (σ3 4 (σ3 2 5).toNat)) fun σ4 =>
  if 0 ≤ σ4 2 5 ∧ σ4 2 5 < 641 then (
  xlet (upS σ4 2 8 (σ4 5 (σ4 2 5).toNat)) fun σ5 =>
  some σ5) else none) else none) else none)
  else (some σ))
theorem c_Tokens_step {σ : xSt} {r : xSt} (hf : f_Tokens_step σ = some r) : Call (1 + 1) 116 [vR 2] σ (tV r).1 (tV r).2 := by
  unfold f_Tokens_step at hf
  refine call_of (own := 9) (rk := 0) (cd := kX9_step) (ls := [some (vR 2)]) (rT := tV) rfl rfl rfl rfl rfl ?_
  refine run_seg (k := 6) (s' := (10, [some (vR 2)], [vI (σ 2 4), vI (w32 ((σ 2 5) + 1))], σ)) rfl ?_
  refine run_callN (w := fun a => some (vI a)) (m := 207) (as := [vI (w32 ((σ 2 5) + 1)), vI (σ 2 4)]) (pc := 13) (ls := [some (vR 2)]) (st' := []) (σ := σ) hf rfl (fun _ h => (c_X_isWithin h).mono (by decide)) (fun r1 hf => ?_)
  refine run_seg (k := 1) (s' := (if r1 = 0 then (79, [some (vR 2)], [], σ) else (16, [some (vR 2)], [], σ))) rfl ?_
  refine run_ite hf (fun _ hf => ?_) (fun _ hf => ?_)
  · exact run_ret hf rfl
  · refine run_seg (k := 8) (s' := (if w32 ((σ 2 5) + 1) < 641 then (30, [some (vR 2)], [], σ) else (79, [some (vR 2)], [], σ))) rfl ?_
    refine run_ite hf (fun _ hf => ?_) (fun _ hf => ?_)
    · refine run_seg (k := 6) (s' := (40, [some (vR 2)], [], upS σ 2 5 (w32 ((σ 2 5) + 1)))) rfl ?_
      refine run_let (fun σ2 => (40, [some (vR 2)], [], σ2)) hf (fun σ2 hf => ?_)
      refine run_seg (k := 5) (s' := (49, [some (vR 2)], [vI (σ2 2 5), vR 3, vR 2], σ2)) rfl ?_
      refine run_guard (s' := (50, [some (vR 2)], [vI (σ2 3 (σ2 2 5).toNat), vR 2], σ2)) hf rfl (fun hf => ?_)
      refine run_seg (k := 1) (s' := (53, [some (vR 2)], [], upS σ2 2 6 (σ2 3 (σ2 2 5).toNat))) rfl ?_
      refine run_let (fun σ3 => (53, [some (vR 2)], [], σ3)) hf (fun σ3 hf => ?_)
      refine run_seg (k := 5) (s' := (62, [some (vR 2)], [vI (σ3 2 5), vR 4, vR 2], σ3)) rfl ?_
      refine run_guard (s' := (63, [some (vR 2)], [vI (σ3 4 (σ3 2 5).toNat), vR 2], σ3)) hf rfl (fun hf => ?_)
      refine run_seg (k := 1) (s' := (66, [some (vR 2)], [], upS σ3 2 7 (σ3 4 (σ3 2 5).toNat))) rfl ?_
      refine run_let (fun σ4 => (66, [some (vR 2)], [], σ4)) hf (fun σ4 hf => ?_)
      refine run_seg (k := 5) (s' := (75, [some (vR 2)], [vI (σ4 2 5), vR 5, vR 2], σ4)) rfl ?_
      refine run_guard (s' := (76, [some (vR 2)], [vI (σ4 5 (σ4 2 5).toNat), vR 2], σ4)) hf rfl (fun hf => ?_)
      refine run_seg (k := 1) (s' := (79, [some (vR 2)], [], upS σ4 2 8 (σ4 5 (σ4 2 5).toNat))) rfl ?_
      refine run_let (fun σ5 => (79, [some (vR 2)], [], σ5)) hf (fun σ5 hf => ?_)
      exact run_ret hf rfl
    · exact run_ret hf rfl
def f_Tokens_begin_62 (l1 : Int) (l2 : Int) (s0 : Int) (σ : xSt) : Option (xSt) :=
  xbR (f_Tokens_add s0 0 (xmin l1 l2) σ) fun σ7 =>
  xlet (upS σ7 2 5 (-1)) fun σ8 =>
  xbR (f_Tokens_step σ8) fun σ9 =>
  some σ9
def f_Tokens_begin_51 (l1 : Int) (l2 : Int) (σ : xSt) : Option (xSt) :=
  if l2 < l1 then (f_Tokens_begin_62 l1 l2 1 σ)
  else (f_Tokens_begin_62 l1 l2 0 σ)
def f_Tokens_begin_20 : Nat → Int → Int → Int → Int → xSt → Option (xSt)
  | 0, _, _, _, _, _ => none
  | n + 1, l1, l2, l3, l4, σ =>
    if l4 < 640 then (if l3 < l1 then (if l3 < l2 then (xbW (f_Tokens_readToken l3 l1 σ) fun r4 σ5 =>
    xlet (w32 (l4 + 1)) fun x6 =>
    f_Tokens_begin_20 n l1 l2 r4 x6 σ5)
    else (f_Tokens_begin_51 l1 l2 σ))
    else (f_Tokens_begin_51 l1 l2 σ))
    else (f_Tokens_begin_51 l1 l2 σ)
/-- BentPenny$Tokens.begin(II)V -/
def f_Tokens_begin (p1 : Int) (p2 : Int) (σ : xSt) : Option (xSt) :=
  xlet (upS σ 2 4 0) fun σ1 =>
  xlet (upS σ1 2 9 0) fun σ2 =>
  xlet (upS σ2 2 10 0) fun σ3 =>
  f_Tokens_begin_20 1000000 p1 p2 0 0 σ3
theorem r_Tokens_begin_62 {l1 : Int} {l2 : Int} {s0 : Int} {g3 : Option xV} {g4 : Option xV} {σ : xSt} {r : xSt} (hf : f_Tokens_begin_62 l1 l2 s0 σ = some r) : Run 4 9 0 kX9_begin (62, [some (vR 2), some (vI l1), some (vI l2), g3, g4], [vI s0, vR 2], σ) (tV r) := by
  unfold f_Tokens_begin_62 at hf
  refine run_seg (k := 4) (s' := (68, [some (vR 2), some (vI l1), some (vI l2), g3, g4], [vI (xmin l1 l2), vI 0, vI s0, vR 2], σ)) rfl ?_
  refine run_callV (m := 108) (as := [vR 2, vI s0, vI 0, vI (xmin l1 l2)]) (pc := 71) (ls := [some (vR 2), some (vI l1), some (vI l2), g3, g4]) (st' := []) (σ := σ) hf rfl (fun _ h => (c_Tokens_add h).mono (by decide)) (fun σ7 hf => ?_)
  refine run_seg (k := 3) (s' := (76, [some (vR 2), some (vI l1), some (vI l2), g3, g4], [], upS σ7 2 5 (-1))) rfl ?_
  refine run_let (fun σ8 => (76, [some (vR 2), some (vI l1), some (vI l2), g3, g4], [], σ8)) hf (fun σ8 hf => ?_)
  refine run_seg (k := 1) (s' := (77, [some (vR 2), some (vI l1), some (vI l2), g3, g4], [vR 2], σ8)) rfl ?_
  refine run_callV (m := 116) (as := [vR 2]) (pc := 80) (ls := [some (vR 2), some (vI l1), some (vI l2), g3, g4]) (st' := []) (σ := σ8) hf rfl (fun _ h => (c_Tokens_step h).mono (by decide)) (fun σ9 hf => ?_)
  exact run_ret hf rfl
theorem r_Tokens_begin_51 {l1 : Int} {l2 : Int} {g3 : Option xV} {g4 : Option xV} {σ : xSt} {r : xSt} (hf : f_Tokens_begin_51 l1 l2 σ = some r) : Run 4 9 0 kX9_begin (51, [some (vR 2), some (vI l1), some (vI l2), g3, g4], [], σ) (tV r) := by
  unfold f_Tokens_begin_51 at hf
  refine run_seg (k := 4) (s' := (if l2 < l1 then (57, [some (vR 2), some (vI l1), some (vI l2), g3, g4], [vR 2], σ) else (61, [some (vR 2), some (vI l1), some (vI l2), g3, g4], [vR 2], σ))) rfl ?_
  refine run_ite hf (fun _ hf => ?_) (fun _ hf => ?_)
  · refine run_seg (k := 2) (s' := (62, [some (vR 2), some (vI l1), some (vI l2), g3, g4], [vI 1, vR 2], σ)) rfl ?_
    exact r_Tokens_begin_62 hf
  · refine run_seg (k := 1) (s' := (62, [some (vR 2), some (vI l1), some (vI l2), g3, g4], [vI 0, vR 2], σ)) rfl ?_
    exact r_Tokens_begin_62 hf
theorem r_Tokens_begin_20 : ∀ (n : Nat) {l1 : Int} {l2 : Int} {l3 : Int} {l4 : Int} {σ : xSt} {r : xSt}, f_Tokens_begin_20 n l1 l2 l3 l4 σ = some r → Run 4 9 0 kX9_begin (20, [some (vR 2), some (vI l1), some (vI l2), some (vI l3), some (vI l4)], [], σ) (tV r) := by
  intro n
  induction n with
  | zero =>
    intro _ _ _ _ _ _ h
    exact nomatch (show (none : Option (xSt)) = some _ from h)
  | succ n ih =>
    intro l1 l2 l3 l4 σ r hf
    unfold f_Tokens_begin_20 at hf
    refine run_seg (k := 3) (s' := (if l4 < 640 then (28, [some (vR 2), some (vI l1), some (vI l2), some (vI l3), some (vI l4)], [], σ) else (51, [some (vR 2), some (vI l1), some (vI l2), some (vI l3), some (vI l4)], [], σ))) rfl ?_
    refine run_ite hf (fun _ hf => ?_) (fun _ hf => ?_)
    · refine run_seg (k := 3) (s' := (if l3 < l1 then (33, [some (vR 2), some (vI l1), some (vI l2), some (vI l3), some (vI l4)], [], σ) else (51, [some (vR 2), some (vI l1), some (vI l2), some (vI l3), some (vI l4)], [], σ))) rfl ?_
      refine run_ite hf (fun _ hf => ?_) (fun _ hf => ?_)
      · refine run_seg (k := 3) (s' := (if l3 < l2 then (38, [some (vR 2), some (vI l1), some (vI l2), some (vI l3), some (vI l4)], [], σ) else (51, [some (vR 2), some (vI l1), some (vI l2), some (vI l3), some (vI l4)], [], σ))) rfl ?_
        refine run_ite hf (fun _ hf => ?_) (fun _ hf => ?_)
        · refine run_seg (k := 3) (s' := (41, [some (vR 2), some (vI l1), some (vI l2), some (vI l3), some (vI l4)], [vI l1, vI l3, vR 2], σ)) rfl ?_
          refine run_callW (w := fun a => some (vI a)) (m := 109) (as := [vR 2, vI l3, vI l1]) (pc := 44) (ls := [some (vR 2), some (vI l1), some (vI l2), some (vI l3), some (vI l4)]) (st' := []) (σ := σ) hf rfl (fun _ _ h => (c_Tokens_readToken h).mono (by decide)) (fun r4 σ5 hf => ?_)
          refine run_seg (k := 2) (s' := (48, [some (vR 2), some (vI l1), some (vI l2), some (vI r4), some (vI (w32 (l4 + 1)))], [], σ5)) rfl ?_
          refine run_let (fun x6 => (48, [some (vR 2), some (vI l1), some (vI l2), some (vI r4), some (vI x6)], [], σ5)) hf (fun x6 hf => ?_)
          refine run_seg (k := 1) (s' := (20, [some (vR 2), some (vI l1), some (vI l2), some (vI r4), some (vI x6)], [], σ5)) rfl ?_
          exact ih hf
        · exact r_Tokens_begin_51 hf
      · exact r_Tokens_begin_51 hf
    · exact r_Tokens_begin_51 hf
theorem c_Tokens_begin {p1 : Int} {p2 : Int} {σ : xSt} {r : xSt} (hf : f_Tokens_begin p1 p2 σ = some r) : Call (4 + 1) 107 [vR 2, vI p1, vI p2] σ (tV r).1 (tV r).2 := by
  unfold f_Tokens_begin at hf
  refine call_of (own := 9) (rk := 0) (cd := kX9_begin) (ls := [some (vR 2), some (vI p1), some (vI p2), none, none]) (rT := tV) rfl rfl rfl rfl rfl ?_
  refine run_seg (k := 3) (s' := (5, [some (vR 2), some (vI p1), some (vI p2), none, none], [], upS σ 2 4 0)) rfl ?_
  refine run_let (fun σ1 => (5, [some (vR 2), some (vI p1), some (vI p2), none, none], [], σ1)) hf (fun σ1 hf => ?_)
  refine run_seg (k := 3) (s' := (10, [some (vR 2), some (vI p1), some (vI p2), none, none], [], upS σ1 2 9 0)) rfl ?_
  refine run_let (fun σ2 => (10, [some (vR 2), some (vI p1), some (vI p2), none, none], [], σ2)) hf (fun σ2 hf => ?_)
  refine run_seg (k := 3) (s' := (15, [some (vR 2), some (vI p1), some (vI p2), none, none], [], upS σ2 2 10 0)) rfl ?_
  refine run_let (fun σ3 => (15, [some (vR 2), some (vI p1), some (vI p2), none, none], [], σ3)) hf (fun σ3 hf => ?_)
  refine run_seg (k := 4) (s' := (20, [some (vR 2), some (vI p1), some (vI p2), some (vI 0), some (vI 0)], [], σ3)) rfl ?_
  exact r_Tokens_begin_20 1000000 hf
/-- BentPenny$Tokens.isOut()Z -/
def f_Tokens_isOut (σ : xSt) : Option (Int) :=
  if σ 2 6 = 0 then (some 1)
  else (if σ 2 6 = 1 then (some 1)
  else (some 0))
theorem c_Tokens_isOut {σ : xSt} {r : Int} (hf : f_Tokens_isOut σ = some r) : Call (0 + 1) 121 [vR 2] σ ((tI σ) r).1 ((tI σ) r).2 := by
  unfold f_Tokens_isOut at hf
  refine call_of (own := 9) (rk := 2) (cd := kX9_isOut) (ls := [some (vR 2)]) (rT := (tI σ)) rfl rfl rfl rfl rfl ?_
  refine run_seg (k := 3) (s' := (if σ 2 6 = 0 then (15, [some (vR 2)], [], σ) else (7, [some (vR 2)], [], σ))) rfl ?_
  refine run_ite hf (fun _ hf => ?_) (fun _ hf => ?_)
  · refine run_seg (k := 2) (s' := (20, [some (vR 2)], [vI 1], σ)) rfl ?_
    exact run_ret hf rfl
  · refine run_seg (k := 4) (s' := (if σ 2 6 = 1 then (15, [some (vR 2)], [], σ) else (19, [some (vR 2)], [], σ))) rfl ?_
    refine run_ite hf (fun _ hf => ?_) (fun _ hf => ?_)
    · refine run_seg (k := 2) (s' := (20, [some (vR 2)], [vI 1], σ)) rfl ?_
      exact run_ret hf rfl
    · refine run_seg (k := 1) (s' := (20, [some (vR 2)], [vI 0], σ)) rfl ?_
      exact run_ret hf rfl
def f_Tokens_is_4 (a1 : Nat) : Nat → Int → Int → xSt → Option (Int)
  | 0, _, _, _ => none
  | n + 1, l2, l3, σ =>
    if l3 < slen a1 then (if 0 ≤ l3 ∧ l3 < slen a1 then (
    xbR (f_Tokens_pack l2 (sch a1 l3) σ) fun r1 =>
    xlet (w32 (l3 + 1)) fun x2 =>
    f_Tokens_is_4 a1 n r1 x2 σ) else none)
    else (if σ 2 6 = 3 then (if σ 2 7 = l2 then (some 1)
    else (some 0))
    else (some 0))
/-- BentPenny$Tokens.is(Ljava/lang/String;)Z -/
def f_Tokens_is (a1 : Nat) (σ : xSt) : Option (Int) :=
  f_Tokens_is_4 a1 1000000 0 0 σ
theorem r_Tokens_is_4_141 : ∀ (n : Nat) {l2 : Int} {l3 : Int} {σ : xSt} {r : Int}, f_Tokens_is_4 141 n l2 l3 σ = some r → Run 1 9 2 kX9_is (4, [some (vR 2), some (vR 141), some (vI l2), some (vI l3)], [], σ) ((tI σ) r) := by
  intro n
  induction n with
  | zero =>
    intro _ _ _ _ h
    exact nomatch (show (none : Option (Int)) = some _ from h)
  | succ n ih =>
    intro l2 l3 σ r hf
    unfold f_Tokens_is_4 at hf
    refine run_seg (k := 4) (s' := (if l3 < slen 141 then (12, [some (vR 2), some (vR 141), some (vI l2), some (vI l3)], [], σ) else (28, [some (vR 2), some (vR 141), some (vI l2), some (vI l3)], [], σ))) rfl ?_
    refine run_ite hf (fun _ hf => ?_) (fun _ hf => ?_)
    · refine run_seg (k := 3) (s' := (15, [some (vR 2), some (vR 141), some (vI l2), some (vI l3)], [vI l3, vR 141, vI l2], σ)) rfl ?_
      refine run_guard (s' := (18, [some (vR 2), some (vR 141), some (vI l2), some (vI l3)], [vI (sch 141 l3), vI l2], σ)) hf rfl (fun hf => ?_)
      refine run_callN (w := fun a => some (vI a)) (m := 114) (as := [vI l2, vI (sch 141 l3)]) (pc := 21) (ls := [some (vR 2), some (vR 141), some (vI l2), some (vI l3)]) (st' := []) (σ := σ) hf rfl (fun _ h => (c_Tokens_pack h).mono (by decide)) (fun r1 hf => ?_)
      refine run_seg (k := 2) (s' := (25, [some (vR 2), some (vR 141), some (vI r1), some (vI (w32 (l3 + 1)))], [], σ)) rfl ?_
      refine run_let (fun x2 => (25, [some (vR 2), some (vR 141), some (vI r1), some (vI x2)], [], σ)) hf (fun x2 hf => ?_)
      refine run_seg (k := 1) (s' := (4, [some (vR 2), some (vR 141), some (vI r1), some (vI x2)], [], σ)) rfl ?_
      exact ih hf
    · refine run_seg (k := 4) (s' := (if σ 2 6 = 3 then (36, [some (vR 2), some (vR 141), some (vI l2), some (vI l3)], [], σ) else (48, [some (vR 2), some (vR 141), some (vI l2), some (vI l3)], [], σ))) rfl ?_
      refine run_ite hf (fun _ hf => ?_) (fun _ hf => ?_)
      · refine run_seg (k := 4) (s' := (if σ 2 7 = l2 then (44, [some (vR 2), some (vR 141), some (vI l2), some (vI l3)], [], σ) else (48, [some (vR 2), some (vR 141), some (vI l2), some (vI l3)], [], σ))) rfl ?_
        refine run_ite hf (fun _ hf => ?_) (fun _ hf => ?_)
        · refine run_seg (k := 2) (s' := (49, [some (vR 2), some (vR 141), some (vI l2), some (vI l3)], [vI 1], σ)) rfl ?_
          exact run_ret hf rfl
        · refine run_seg (k := 1) (s' := (49, [some (vR 2), some (vR 141), some (vI l2), some (vI l3)], [vI 0], σ)) rfl ?_
          exact run_ret hf rfl
      · refine run_seg (k := 1) (s' := (49, [some (vR 2), some (vR 141), some (vI l2), some (vI l3)], [vI 0], σ)) rfl ?_
        exact run_ret hf rfl
theorem c_Tokens_is_141 {σ : xSt} {r : Int} (hf : f_Tokens_is 141 σ = some r) : Call (1 + 1) 117 [vR 2, vR 141] σ ((tI σ) r).1 ((tI σ) r).2 := by
  unfold f_Tokens_is at hf
  refine call_of (own := 9) (rk := 2) (cd := kX9_is) (ls := [some (vR 2), some (vR 141), none, none]) (rT := (tI σ)) rfl rfl rfl rfl rfl ?_
  refine run_seg (k := 4) (s' := (4, [some (vR 2), some (vR 141), some (vI 0), some (vI 0)], [], σ)) rfl ?_
  exact r_Tokens_is_4_141 1000000 hf
theorem r_Tokens_is_4_142 : ∀ (n : Nat) {l2 : Int} {l3 : Int} {σ : xSt} {r : Int}, f_Tokens_is_4 142 n l2 l3 σ = some r → Run 1 9 2 kX9_is (4, [some (vR 2), some (vR 142), some (vI l2), some (vI l3)], [], σ) ((tI σ) r) := by
  intro n
  induction n with
  | zero =>
    intro _ _ _ _ h
    exact nomatch (show (none : Option (Int)) = some _ from h)
  | succ n ih =>
    intro l2 l3 σ r hf
    unfold f_Tokens_is_4 at hf
    refine run_seg (k := 4) (s' := (if l3 < slen 142 then (12, [some (vR 2), some (vR 142), some (vI l2), some (vI l3)], [], σ) else (28, [some (vR 2), some (vR 142), some (vI l2), some (vI l3)], [], σ))) rfl ?_
    refine run_ite hf (fun _ hf => ?_) (fun _ hf => ?_)
    · refine run_seg (k := 3) (s' := (15, [some (vR 2), some (vR 142), some (vI l2), some (vI l3)], [vI l3, vR 142, vI l2], σ)) rfl ?_
      refine run_guard (s' := (18, [some (vR 2), some (vR 142), some (vI l2), some (vI l3)], [vI (sch 142 l3), vI l2], σ)) hf rfl (fun hf => ?_)
      refine run_callN (w := fun a => some (vI a)) (m := 114) (as := [vI l2, vI (sch 142 l3)]) (pc := 21) (ls := [some (vR 2), some (vR 142), some (vI l2), some (vI l3)]) (st' := []) (σ := σ) hf rfl (fun _ h => (c_Tokens_pack h).mono (by decide)) (fun r1 hf => ?_)
      refine run_seg (k := 2) (s' := (25, [some (vR 2), some (vR 142), some (vI r1), some (vI (w32 (l3 + 1)))], [], σ)) rfl ?_
      refine run_let (fun x2 => (25, [some (vR 2), some (vR 142), some (vI r1), some (vI x2)], [], σ)) hf (fun x2 hf => ?_)
      refine run_seg (k := 1) (s' := (4, [some (vR 2), some (vR 142), some (vI r1), some (vI x2)], [], σ)) rfl ?_
      exact ih hf
    · refine run_seg (k := 4) (s' := (if σ 2 6 = 3 then (36, [some (vR 2), some (vR 142), some (vI l2), some (vI l3)], [], σ) else (48, [some (vR 2), some (vR 142), some (vI l2), some (vI l3)], [], σ))) rfl ?_
      refine run_ite hf (fun _ hf => ?_) (fun _ hf => ?_)
      · refine run_seg (k := 4) (s' := (if σ 2 7 = l2 then (44, [some (vR 2), some (vR 142), some (vI l2), some (vI l3)], [], σ) else (48, [some (vR 2), some (vR 142), some (vI l2), some (vI l3)], [], σ))) rfl ?_
        refine run_ite hf (fun _ hf => ?_) (fun _ hf => ?_)
        · refine run_seg (k := 2) (s' := (49, [some (vR 2), some (vR 142), some (vI l2), some (vI l3)], [vI 1], σ)) rfl ?_
          exact run_ret hf rfl
        · refine run_seg (k := 1) (s' := (49, [some (vR 2), some (vR 142), some (vI l2), some (vI l3)], [vI 0], σ)) rfl ?_
          exact run_ret hf rfl
      · refine run_seg (k := 1) (s' := (49, [some (vR 2), some (vR 142), some (vI l2), some (vI l3)], [vI 0], σ)) rfl ?_
        exact run_ret hf rfl
theorem c_Tokens_is_142 {σ : xSt} {r : Int} (hf : f_Tokens_is 142 σ = some r) : Call (1 + 1) 117 [vR 2, vR 142] σ ((tI σ) r).1 ((tI σ) r).2 := by
  unfold f_Tokens_is at hf
  refine call_of (own := 9) (rk := 2) (cd := kX9_is) (ls := [some (vR 2), some (vR 142), none, none]) (rT := (tI σ)) rfl rfl rfl rfl rfl ?_
  refine run_seg (k := 4) (s' := (4, [some (vR 2), some (vR 142), some (vI 0), some (vI 0)], [], σ)) rfl ?_
  exact r_Tokens_is_4_142 1000000 hf
theorem r_Tokens_is_4_143 : ∀ (n : Nat) {l2 : Int} {l3 : Int} {σ : xSt} {r : Int}, f_Tokens_is_4 143 n l2 l3 σ = some r → Run 1 9 2 kX9_is (4, [some (vR 2), some (vR 143), some (vI l2), some (vI l3)], [], σ) ((tI σ) r) := by
  intro n
  induction n with
  | zero =>
    intro _ _ _ _ h
    exact nomatch (show (none : Option (Int)) = some _ from h)
  | succ n ih =>
    intro l2 l3 σ r hf
    unfold f_Tokens_is_4 at hf
    refine run_seg (k := 4) (s' := (if l3 < slen 143 then (12, [some (vR 2), some (vR 143), some (vI l2), some (vI l3)], [], σ) else (28, [some (vR 2), some (vR 143), some (vI l2), some (vI l3)], [], σ))) rfl ?_
    refine run_ite hf (fun _ hf => ?_) (fun _ hf => ?_)
    · refine run_seg (k := 3) (s' := (15, [some (vR 2), some (vR 143), some (vI l2), some (vI l3)], [vI l3, vR 143, vI l2], σ)) rfl ?_
      refine run_guard (s' := (18, [some (vR 2), some (vR 143), some (vI l2), some (vI l3)], [vI (sch 143 l3), vI l2], σ)) hf rfl (fun hf => ?_)
      refine run_callN (w := fun a => some (vI a)) (m := 114) (as := [vI l2, vI (sch 143 l3)]) (pc := 21) (ls := [some (vR 2), some (vR 143), some (vI l2), some (vI l3)]) (st' := []) (σ := σ) hf rfl (fun _ h => (c_Tokens_pack h).mono (by decide)) (fun r1 hf => ?_)
      refine run_seg (k := 2) (s' := (25, [some (vR 2), some (vR 143), some (vI r1), some (vI (w32 (l3 + 1)))], [], σ)) rfl ?_
      refine run_let (fun x2 => (25, [some (vR 2), some (vR 143), some (vI r1), some (vI x2)], [], σ)) hf (fun x2 hf => ?_)
      refine run_seg (k := 1) (s' := (4, [some (vR 2), some (vR 143), some (vI r1), some (vI x2)], [], σ)) rfl ?_
      exact ih hf
    · refine run_seg (k := 4) (s' := (if σ 2 6 = 3 then (36, [some (vR 2), some (vR 143), some (vI l2), some (vI l3)], [], σ) else (48, [some (vR 2), some (vR 143), some (vI l2), some (vI l3)], [], σ))) rfl ?_
      refine run_ite hf (fun _ hf => ?_) (fun _ hf => ?_)
      · refine run_seg (k := 4) (s' := (if σ 2 7 = l2 then (44, [some (vR 2), some (vR 143), some (vI l2), some (vI l3)], [], σ) else (48, [some (vR 2), some (vR 143), some (vI l2), some (vI l3)], [], σ))) rfl ?_
        refine run_ite hf (fun _ hf => ?_) (fun _ hf => ?_)
        · refine run_seg (k := 2) (s' := (49, [some (vR 2), some (vR 143), some (vI l2), some (vI l3)], [vI 1], σ)) rfl ?_
          exact run_ret hf rfl
        · refine run_seg (k := 1) (s' := (49, [some (vR 2), some (vR 143), some (vI l2), some (vI l3)], [vI 0], σ)) rfl ?_
          exact run_ret hf rfl
      · refine run_seg (k := 1) (s' := (49, [some (vR 2), some (vR 143), some (vI l2), some (vI l3)], [vI 0], σ)) rfl ?_
        exact run_ret hf rfl
theorem c_Tokens_is_143 {σ : xSt} {r : Int} (hf : f_Tokens_is 143 σ = some r) : Call (1 + 1) 117 [vR 2, vR 143] σ ((tI σ) r).1 ((tI σ) r).2 := by
  unfold f_Tokens_is at hf
  refine call_of (own := 9) (rk := 2) (cd := kX9_is) (ls := [some (vR 2), some (vR 143), none, none]) (rT := (tI σ)) rfl rfl rfl rfl rfl ?_
  refine run_seg (k := 4) (s' := (4, [some (vR 2), some (vR 143), some (vI 0), some (vI 0)], [], σ)) rfl ?_
  exact r_Tokens_is_4_143 1000000 hf
theorem r_Tokens_is_4_144 : ∀ (n : Nat) {l2 : Int} {l3 : Int} {σ : xSt} {r : Int}, f_Tokens_is_4 144 n l2 l3 σ = some r → Run 1 9 2 kX9_is (4, [some (vR 2), some (vR 144), some (vI l2), some (vI l3)], [], σ) ((tI σ) r) := by
  intro n
  induction n with
  | zero =>
    intro _ _ _ _ h
    exact nomatch (show (none : Option (Int)) = some _ from h)
  | succ n ih =>
    intro l2 l3 σ r hf
    unfold f_Tokens_is_4 at hf
    refine run_seg (k := 4) (s' := (if l3 < slen 144 then (12, [some (vR 2), some (vR 144), some (vI l2), some (vI l3)], [], σ) else (28, [some (vR 2), some (vR 144), some (vI l2), some (vI l3)], [], σ))) rfl ?_
    refine run_ite hf (fun _ hf => ?_) (fun _ hf => ?_)
    · refine run_seg (k := 3) (s' := (15, [some (vR 2), some (vR 144), some (vI l2), some (vI l3)], [vI l3, vR 144, vI l2], σ)) rfl ?_
      refine run_guard (s' := (18, [some (vR 2), some (vR 144), some (vI l2), some (vI l3)], [vI (sch 144 l3), vI l2], σ)) hf rfl (fun hf => ?_)
      refine run_callN (w := fun a => some (vI a)) (m := 114) (as := [vI l2, vI (sch 144 l3)]) (pc := 21) (ls := [some (vR 2), some (vR 144), some (vI l2), some (vI l3)]) (st' := []) (σ := σ) hf rfl (fun _ h => (c_Tokens_pack h).mono (by decide)) (fun r1 hf => ?_)
      refine run_seg (k := 2) (s' := (25, [some (vR 2), some (vR 144), some (vI r1), some (vI (w32 (l3 + 1)))], [], σ)) rfl ?_
      refine run_let (fun x2 => (25, [some (vR 2), some (vR 144), some (vI r1), some (vI x2)], [], σ)) hf (fun x2 hf => ?_)
      refine run_seg (k := 1) (s' := (4, [some (vR 2), some (vR 144), some (vI r1), some (vI x2)], [], σ)) rfl ?_
      exact ih hf
    · refine run_seg (k := 4) (s' := (if σ 2 6 = 3 then (36, [some (vR 2), some (vR 144), some (vI l2), some (vI l3)], [], σ) else (48, [some (vR 2), some (vR 144), some (vI l2), some (vI l3)], [], σ))) rfl ?_
      refine run_ite hf (fun _ hf => ?_) (fun _ hf => ?_)
      · refine run_seg (k := 4) (s' := (if σ 2 7 = l2 then (44, [some (vR 2), some (vR 144), some (vI l2), some (vI l3)], [], σ) else (48, [some (vR 2), some (vR 144), some (vI l2), some (vI l3)], [], σ))) rfl ?_
        refine run_ite hf (fun _ hf => ?_) (fun _ hf => ?_)
        · refine run_seg (k := 2) (s' := (49, [some (vR 2), some (vR 144), some (vI l2), some (vI l3)], [vI 1], σ)) rfl ?_
          exact run_ret hf rfl
        · refine run_seg (k := 1) (s' := (49, [some (vR 2), some (vR 144), some (vI l2), some (vI l3)], [vI 0], σ)) rfl ?_
          exact run_ret hf rfl
      · refine run_seg (k := 1) (s' := (49, [some (vR 2), some (vR 144), some (vI l2), some (vI l3)], [vI 0], σ)) rfl ?_
        exact run_ret hf rfl
theorem c_Tokens_is_144 {σ : xSt} {r : Int} (hf : f_Tokens_is 144 σ = some r) : Call (1 + 1) 117 [vR 2, vR 144] σ ((tI σ) r).1 ((tI σ) r).2 := by
  unfold f_Tokens_is at hf
  refine call_of (own := 9) (rk := 2) (cd := kX9_is) (ls := [some (vR 2), some (vR 144), none, none]) (rT := (tI σ)) rfl rfl rfl rfl rfl ?_
  refine run_seg (k := 4) (s' := (4, [some (vR 2), some (vR 144), some (vI 0), some (vI 0)], [], σ)) rfl ?_
  exact r_Tokens_is_4_144 1000000 hf
theorem r_Tokens_is_4_145 : ∀ (n : Nat) {l2 : Int} {l3 : Int} {σ : xSt} {r : Int}, f_Tokens_is_4 145 n l2 l3 σ = some r → Run 1 9 2 kX9_is (4, [some (vR 2), some (vR 145), some (vI l2), some (vI l3)], [], σ) ((tI σ) r) := by
  intro n
  induction n with
  | zero =>
    intro _ _ _ _ h
    exact nomatch (show (none : Option (Int)) = some _ from h)
  | succ n ih =>
    intro l2 l3 σ r hf
    unfold f_Tokens_is_4 at hf
    refine run_seg (k := 4) (s' := (if l3 < slen 145 then (12, [some (vR 2), some (vR 145), some (vI l2), some (vI l3)], [], σ) else (28, [some (vR 2), some (vR 145), some (vI l2), some (vI l3)], [], σ))) rfl ?_
    refine run_ite hf (fun _ hf => ?_) (fun _ hf => ?_)
    · refine run_seg (k := 3) (s' := (15, [some (vR 2), some (vR 145), some (vI l2), some (vI l3)], [vI l3, vR 145, vI l2], σ)) rfl ?_
      refine run_guard (s' := (18, [some (vR 2), some (vR 145), some (vI l2), some (vI l3)], [vI (sch 145 l3), vI l2], σ)) hf rfl (fun hf => ?_)
      refine run_callN (w := fun a => some (vI a)) (m := 114) (as := [vI l2, vI (sch 145 l3)]) (pc := 21) (ls := [some (vR 2), some (vR 145), some (vI l2), some (vI l3)]) (st' := []) (σ := σ) hf rfl (fun _ h => (c_Tokens_pack h).mono (by decide)) (fun r1 hf => ?_)
      refine run_seg (k := 2) (s' := (25, [some (vR 2), some (vR 145), some (vI r1), some (vI (w32 (l3 + 1)))], [], σ)) rfl ?_
      refine run_let (fun x2 => (25, [some (vR 2), some (vR 145), some (vI r1), some (vI x2)], [], σ)) hf (fun x2 hf => ?_)
      refine run_seg (k := 1) (s' := (4, [some (vR 2), some (vR 145), some (vI r1), some (vI x2)], [], σ)) rfl ?_
      exact ih hf
    · refine run_seg (k := 4) (s' := (if σ 2 6 = 3 then (36, [some (vR 2), some (vR 145), some (vI l2), some (vI l3)], [], σ) else (48, [some (vR 2), some (vR 145), some (vI l2), some (vI l3)], [], σ))) rfl ?_
      refine run_ite hf (fun _ hf => ?_) (fun _ hf => ?_)
      · refine run_seg (k := 4) (s' := (if σ 2 7 = l2 then (44, [some (vR 2), some (vR 145), some (vI l2), some (vI l3)], [], σ) else (48, [some (vR 2), some (vR 145), some (vI l2), some (vI l3)], [], σ))) rfl ?_
        refine run_ite hf (fun _ hf => ?_) (fun _ hf => ?_)
        · refine run_seg (k := 2) (s' := (49, [some (vR 2), some (vR 145), some (vI l2), some (vI l3)], [vI 1], σ)) rfl ?_
          exact run_ret hf rfl
        · refine run_seg (k := 1) (s' := (49, [some (vR 2), some (vR 145), some (vI l2), some (vI l3)], [vI 0], σ)) rfl ?_
          exact run_ret hf rfl
      · refine run_seg (k := 1) (s' := (49, [some (vR 2), some (vR 145), some (vI l2), some (vI l3)], [vI 0], σ)) rfl ?_
        exact run_ret hf rfl
theorem c_Tokens_is_145 {σ : xSt} {r : Int} (hf : f_Tokens_is 145 σ = some r) : Call (1 + 1) 117 [vR 2, vR 145] σ ((tI σ) r).1 ((tI σ) r).2 := by
  unfold f_Tokens_is at hf
  refine call_of (own := 9) (rk := 2) (cd := kX9_is) (ls := [some (vR 2), some (vR 145), none, none]) (rT := (tI σ)) rfl rfl rfl rfl rfl ?_
  refine run_seg (k := 4) (s' := (4, [some (vR 2), some (vR 145), some (vI 0), some (vI 0)], [], σ)) rfl ?_
  exact r_Tokens_is_4_145 1000000 hf
theorem r_Tokens_is_4_146 : ∀ (n : Nat) {l2 : Int} {l3 : Int} {σ : xSt} {r : Int}, f_Tokens_is_4 146 n l2 l3 σ = some r → Run 1 9 2 kX9_is (4, [some (vR 2), some (vR 146), some (vI l2), some (vI l3)], [], σ) ((tI σ) r) := by
  intro n
  induction n with
  | zero =>
    intro _ _ _ _ h
    exact nomatch (show (none : Option (Int)) = some _ from h)
  | succ n ih =>
    intro l2 l3 σ r hf
    unfold f_Tokens_is_4 at hf
    refine run_seg (k := 4) (s' := (if l3 < slen 146 then (12, [some (vR 2), some (vR 146), some (vI l2), some (vI l3)], [], σ) else (28, [some (vR 2), some (vR 146), some (vI l2), some (vI l3)], [], σ))) rfl ?_
    refine run_ite hf (fun _ hf => ?_) (fun _ hf => ?_)
    · refine run_seg (k := 3) (s' := (15, [some (vR 2), some (vR 146), some (vI l2), some (vI l3)], [vI l3, vR 146, vI l2], σ)) rfl ?_
      refine run_guard (s' := (18, [some (vR 2), some (vR 146), some (vI l2), some (vI l3)], [vI (sch 146 l3), vI l2], σ)) hf rfl (fun hf => ?_)
      refine run_callN (w := fun a => some (vI a)) (m := 114) (as := [vI l2, vI (sch 146 l3)]) (pc := 21) (ls := [some (vR 2), some (vR 146), some (vI l2), some (vI l3)]) (st' := []) (σ := σ) hf rfl (fun _ h => (c_Tokens_pack h).mono (by decide)) (fun r1 hf => ?_)
      refine run_seg (k := 2) (s' := (25, [some (vR 2), some (vR 146), some (vI r1), some (vI (w32 (l3 + 1)))], [], σ)) rfl ?_
      refine run_let (fun x2 => (25, [some (vR 2), some (vR 146), some (vI r1), some (vI x2)], [], σ)) hf (fun x2 hf => ?_)
      refine run_seg (k := 1) (s' := (4, [some (vR 2), some (vR 146), some (vI r1), some (vI x2)], [], σ)) rfl ?_
      exact ih hf
    · refine run_seg (k := 4) (s' := (if σ 2 6 = 3 then (36, [some (vR 2), some (vR 146), some (vI l2), some (vI l3)], [], σ) else (48, [some (vR 2), some (vR 146), some (vI l2), some (vI l3)], [], σ))) rfl ?_
      refine run_ite hf (fun _ hf => ?_) (fun _ hf => ?_)
      · refine run_seg (k := 4) (s' := (if σ 2 7 = l2 then (44, [some (vR 2), some (vR 146), some (vI l2), some (vI l3)], [], σ) else (48, [some (vR 2), some (vR 146), some (vI l2), some (vI l3)], [], σ))) rfl ?_
        refine run_ite hf (fun _ hf => ?_) (fun _ hf => ?_)
        · refine run_seg (k := 2) (s' := (49, [some (vR 2), some (vR 146), some (vI l2), some (vI l3)], [vI 1], σ)) rfl ?_
          exact run_ret hf rfl
        · refine run_seg (k := 1) (s' := (49, [some (vR 2), some (vR 146), some (vI l2), some (vI l3)], [vI 0], σ)) rfl ?_
          exact run_ret hf rfl
      · refine run_seg (k := 1) (s' := (49, [some (vR 2), some (vR 146), some (vI l2), some (vI l3)], [vI 0], σ)) rfl ?_
        exact run_ret hf rfl
theorem c_Tokens_is_146 {σ : xSt} {r : Int} (hf : f_Tokens_is 146 σ = some r) : Call (1 + 1) 117 [vR 2, vR 146] σ ((tI σ) r).1 ((tI σ) r).2 := by
  unfold f_Tokens_is at hf
  refine call_of (own := 9) (rk := 2) (cd := kX9_is) (ls := [some (vR 2), some (vR 146), none, none]) (rT := (tI σ)) rfl rfl rfl rfl rfl ?_
  refine run_seg (k := 4) (s' := (4, [some (vR 2), some (vR 146), some (vI 0), some (vI 0)], [], σ)) rfl ?_
  exact r_Tokens_is_4_146 1000000 hf
theorem r_Tokens_is_4_147 : ∀ (n : Nat) {l2 : Int} {l3 : Int} {σ : xSt} {r : Int}, f_Tokens_is_4 147 n l2 l3 σ = some r → Run 1 9 2 kX9_is (4, [some (vR 2), some (vR 147), some (vI l2), some (vI l3)], [], σ) ((tI σ) r) := by
  intro n
  induction n with
  | zero =>
    intro _ _ _ _ h
    exact nomatch (show (none : Option (Int)) = some _ from h)
  | succ n ih =>
    intro l2 l3 σ r hf
    unfold f_Tokens_is_4 at hf
    refine run_seg (k := 4) (s' := (if l3 < slen 147 then (12, [some (vR 2), some (vR 147), some (vI l2), some (vI l3)], [], σ) else (28, [some (vR 2), some (vR 147), some (vI l2), some (vI l3)], [], σ))) rfl ?_
    refine run_ite hf (fun _ hf => ?_) (fun _ hf => ?_)
    · refine run_seg (k := 3) (s' := (15, [some (vR 2), some (vR 147), some (vI l2), some (vI l3)], [vI l3, vR 147, vI l2], σ)) rfl ?_
      refine run_guard (s' := (18, [some (vR 2), some (vR 147), some (vI l2), some (vI l3)], [vI (sch 147 l3), vI l2], σ)) hf rfl (fun hf => ?_)
      refine run_callN (w := fun a => some (vI a)) (m := 114) (as := [vI l2, vI (sch 147 l3)]) (pc := 21) (ls := [some (vR 2), some (vR 147), some (vI l2), some (vI l3)]) (st' := []) (σ := σ) hf rfl (fun _ h => (c_Tokens_pack h).mono (by decide)) (fun r1 hf => ?_)
      refine run_seg (k := 2) (s' := (25, [some (vR 2), some (vR 147), some (vI r1), some (vI (w32 (l3 + 1)))], [], σ)) rfl ?_
      refine run_let (fun x2 => (25, [some (vR 2), some (vR 147), some (vI r1), some (vI x2)], [], σ)) hf (fun x2 hf => ?_)
      refine run_seg (k := 1) (s' := (4, [some (vR 2), some (vR 147), some (vI r1), some (vI x2)], [], σ)) rfl ?_
      exact ih hf
    · refine run_seg (k := 4) (s' := (if σ 2 6 = 3 then (36, [some (vR 2), some (vR 147), some (vI l2), some (vI l3)], [], σ) else (48, [some (vR 2), some (vR 147), some (vI l2), some (vI l3)], [], σ))) rfl ?_
      refine run_ite hf (fun _ hf => ?_) (fun _ hf => ?_)
      · refine run_seg (k := 4) (s' := (if σ 2 7 = l2 then (44, [some (vR 2), some (vR 147), some (vI l2), some (vI l3)], [], σ) else (48, [some (vR 2), some (vR 147), some (vI l2), some (vI l3)], [], σ))) rfl ?_
        refine run_ite hf (fun _ hf => ?_) (fun _ hf => ?_)
        · refine run_seg (k := 2) (s' := (49, [some (vR 2), some (vR 147), some (vI l2), some (vI l3)], [vI 1], σ)) rfl ?_
          exact run_ret hf rfl
        · refine run_seg (k := 1) (s' := (49, [some (vR 2), some (vR 147), some (vI l2), some (vI l3)], [vI 0], σ)) rfl ?_
          exact run_ret hf rfl
      · refine run_seg (k := 1) (s' := (49, [some (vR 2), some (vR 147), some (vI l2), some (vI l3)], [vI 0], σ)) rfl ?_
        exact run_ret hf rfl
theorem c_Tokens_is_147 {σ : xSt} {r : Int} (hf : f_Tokens_is 147 σ = some r) : Call (1 + 1) 117 [vR 2, vR 147] σ ((tI σ) r).1 ((tI σ) r).2 := by
  unfold f_Tokens_is at hf
  refine call_of (own := 9) (rk := 2) (cd := kX9_is) (ls := [some (vR 2), some (vR 147), none, none]) (rT := (tI σ)) rfl rfl rfl rfl rfl ?_
  refine run_seg (k := 4) (s' := (4, [some (vR 2), some (vR 147), some (vI 0), some (vI 0)], [], σ)) rfl ?_
  exact r_Tokens_is_4_147 1000000 hf
theorem r_Tokens_is_4_148 : ∀ (n : Nat) {l2 : Int} {l3 : Int} {σ : xSt} {r : Int}, f_Tokens_is_4 148 n l2 l3 σ = some r → Run 1 9 2 kX9_is (4, [some (vR 2), some (vR 148), some (vI l2), some (vI l3)], [], σ) ((tI σ) r) := by
  intro n
  induction n with
  | zero =>
    intro _ _ _ _ h
    exact nomatch (show (none : Option (Int)) = some _ from h)
  | succ n ih =>
    intro l2 l3 σ r hf
    unfold f_Tokens_is_4 at hf
    refine run_seg (k := 4) (s' := (if l3 < slen 148 then (12, [some (vR 2), some (vR 148), some (vI l2), some (vI l3)], [], σ) else (28, [some (vR 2), some (vR 148), some (vI l2), some (vI l3)], [], σ))) rfl ?_
    refine run_ite hf (fun _ hf => ?_) (fun _ hf => ?_)
    · refine run_seg (k := 3) (s' := (15, [some (vR 2), some (vR 148), some (vI l2), some (vI l3)], [vI l3, vR 148, vI l2], σ)) rfl ?_
      refine run_guard (s' := (18, [some (vR 2), some (vR 148), some (vI l2), some (vI l3)], [vI (sch 148 l3), vI l2], σ)) hf rfl (fun hf => ?_)
      refine run_callN (w := fun a => some (vI a)) (m := 114) (as := [vI l2, vI (sch 148 l3)]) (pc := 21) (ls := [some (vR 2), some (vR 148), some (vI l2), some (vI l3)]) (st' := []) (σ := σ) hf rfl (fun _ h => (c_Tokens_pack h).mono (by decide)) (fun r1 hf => ?_)
      refine run_seg (k := 2) (s' := (25, [some (vR 2), some (vR 148), some (vI r1), some (vI (w32 (l3 + 1)))], [], σ)) rfl ?_
      refine run_let (fun x2 => (25, [some (vR 2), some (vR 148), some (vI r1), some (vI x2)], [], σ)) hf (fun x2 hf => ?_)
      refine run_seg (k := 1) (s' := (4, [some (vR 2), some (vR 148), some (vI r1), some (vI x2)], [], σ)) rfl ?_
      exact ih hf
    · refine run_seg (k := 4) (s' := (if σ 2 6 = 3 then (36, [some (vR 2), some (vR 148), some (vI l2), some (vI l3)], [], σ) else (48, [some (vR 2), some (vR 148), some (vI l2), some (vI l3)], [], σ))) rfl ?_
      refine run_ite hf (fun _ hf => ?_) (fun _ hf => ?_)
      · refine run_seg (k := 4) (s' := (if σ 2 7 = l2 then (44, [some (vR 2), some (vR 148), some (vI l2), some (vI l3)], [], σ) else (48, [some (vR 2), some (vR 148), some (vI l2), some (vI l3)], [], σ))) rfl ?_
        refine run_ite hf (fun _ hf => ?_) (fun _ hf => ?_)
        · refine run_seg (k := 2) (s' := (49, [some (vR 2), some (vR 148), some (vI l2), some (vI l3)], [vI 1], σ)) rfl ?_
          exact run_ret hf rfl
        · refine run_seg (k := 1) (s' := (49, [some (vR 2), some (vR 148), some (vI l2), some (vI l3)], [vI 0], σ)) rfl ?_
          exact run_ret hf rfl
      · refine run_seg (k := 1) (s' := (49, [some (vR 2), some (vR 148), some (vI l2), some (vI l3)], [vI 0], σ)) rfl ?_
        exact run_ret hf rfl
theorem c_Tokens_is_148 {σ : xSt} {r : Int} (hf : f_Tokens_is 148 σ = some r) : Call (1 + 1) 117 [vR 2, vR 148] σ ((tI σ) r).1 ((tI σ) r).2 := by
  unfold f_Tokens_is at hf
  refine call_of (own := 9) (rk := 2) (cd := kX9_is) (ls := [some (vR 2), some (vR 148), none, none]) (rT := (tI σ)) rfl rfl rfl rfl rfl ?_
  refine run_seg (k := 4) (s' := (4, [some (vR 2), some (vR 148), some (vI 0), some (vI 0)], [], σ)) rfl ?_
  exact r_Tokens_is_4_148 1000000 hf
theorem r_Tokens_is_4_149 : ∀ (n : Nat) {l2 : Int} {l3 : Int} {σ : xSt} {r : Int}, f_Tokens_is_4 149 n l2 l3 σ = some r → Run 1 9 2 kX9_is (4, [some (vR 2), some (vR 149), some (vI l2), some (vI l3)], [], σ) ((tI σ) r) := by
  intro n
  induction n with
  | zero =>
    intro _ _ _ _ h
    exact nomatch (show (none : Option (Int)) = some _ from h)
  | succ n ih =>
    intro l2 l3 σ r hf
    unfold f_Tokens_is_4 at hf
    refine run_seg (k := 4) (s' := (if l3 < slen 149 then (12, [some (vR 2), some (vR 149), some (vI l2), some (vI l3)], [], σ) else (28, [some (vR 2), some (vR 149), some (vI l2), some (vI l3)], [], σ))) rfl ?_
    refine run_ite hf (fun _ hf => ?_) (fun _ hf => ?_)
    · refine run_seg (k := 3) (s' := (15, [some (vR 2), some (vR 149), some (vI l2), some (vI l3)], [vI l3, vR 149, vI l2], σ)) rfl ?_
      refine run_guard (s' := (18, [some (vR 2), some (vR 149), some (vI l2), some (vI l3)], [vI (sch 149 l3), vI l2], σ)) hf rfl (fun hf => ?_)
      refine run_callN (w := fun a => some (vI a)) (m := 114) (as := [vI l2, vI (sch 149 l3)]) (pc := 21) (ls := [some (vR 2), some (vR 149), some (vI l2), some (vI l3)]) (st' := []) (σ := σ) hf rfl (fun _ h => (c_Tokens_pack h).mono (by decide)) (fun r1 hf => ?_)
      refine run_seg (k := 2) (s' := (25, [some (vR 2), some (vR 149), some (vI r1), some (vI (w32 (l3 + 1)))], [], σ)) rfl ?_
      refine run_let (fun x2 => (25, [some (vR 2), some (vR 149), some (vI r1), some (vI x2)], [], σ)) hf (fun x2 hf => ?_)
      refine run_seg (k := 1) (s' := (4, [some (vR 2), some (vR 149), some (vI r1), some (vI x2)], [], σ)) rfl ?_
      exact ih hf
    · refine run_seg (k := 4) (s' := (if σ 2 6 = 3 then (36, [some (vR 2), some (vR 149), some (vI l2), some (vI l3)], [], σ) else (48, [some (vR 2), some (vR 149), some (vI l2), some (vI l3)], [], σ))) rfl ?_
      refine run_ite hf (fun _ hf => ?_) (fun _ hf => ?_)
      · refine run_seg (k := 4) (s' := (if σ 2 7 = l2 then (44, [some (vR 2), some (vR 149), some (vI l2), some (vI l3)], [], σ) else (48, [some (vR 2), some (vR 149), some (vI l2), some (vI l3)], [], σ))) rfl ?_
        refine run_ite hf (fun _ hf => ?_) (fun _ hf => ?_)
        · refine run_seg (k := 2) (s' := (49, [some (vR 2), some (vR 149), some (vI l2), some (vI l3)], [vI 1], σ)) rfl ?_
          exact run_ret hf rfl
        · refine run_seg (k := 1) (s' := (49, [some (vR 2), some (vR 149), some (vI l2), some (vI l3)], [vI 0], σ)) rfl ?_
          exact run_ret hf rfl
      · refine run_seg (k := 1) (s' := (49, [some (vR 2), some (vR 149), some (vI l2), some (vI l3)], [vI 0], σ)) rfl ?_
        exact run_ret hf rfl
theorem c_Tokens_is_149 {σ : xSt} {r : Int} (hf : f_Tokens_is 149 σ = some r) : Call (1 + 1) 117 [vR 2, vR 149] σ ((tI σ) r).1 ((tI σ) r).2 := by
  unfold f_Tokens_is at hf
  refine call_of (own := 9) (rk := 2) (cd := kX9_is) (ls := [some (vR 2), some (vR 149), none, none]) (rT := (tI σ)) rfl rfl rfl rfl rfl ?_
  refine run_seg (k := 4) (s' := (4, [some (vR 2), some (vR 149), some (vI 0), some (vI 0)], [], σ)) rfl ?_
  exact r_Tokens_is_4_149 1000000 hf
theorem r_Tokens_is_4_150 : ∀ (n : Nat) {l2 : Int} {l3 : Int} {σ : xSt} {r : Int}, f_Tokens_is_4 150 n l2 l3 σ = some r → Run 1 9 2 kX9_is (4, [some (vR 2), some (vR 150), some (vI l2), some (vI l3)], [], σ) ((tI σ) r) := by
  intro n
  induction n with
  | zero =>
    intro _ _ _ _ h
    exact nomatch (show (none : Option (Int)) = some _ from h)
  | succ n ih =>
    intro l2 l3 σ r hf
    unfold f_Tokens_is_4 at hf
    refine run_seg (k := 4) (s' := (if l3 < slen 150 then (12, [some (vR 2), some (vR 150), some (vI l2), some (vI l3)], [], σ) else (28, [some (vR 2), some (vR 150), some (vI l2), some (vI l3)], [], σ))) rfl ?_
    refine run_ite hf (fun _ hf => ?_) (fun _ hf => ?_)
    · refine run_seg (k := 3) (s' := (15, [some (vR 2), some (vR 150), some (vI l2), some (vI l3)], [vI l3, vR 150, vI l2], σ)) rfl ?_
      refine run_guard (s' := (18, [some (vR 2), some (vR 150), some (vI l2), some (vI l3)], [vI (sch 150 l3), vI l2], σ)) hf rfl (fun hf => ?_)
      refine run_callN (w := fun a => some (vI a)) (m := 114) (as := [vI l2, vI (sch 150 l3)]) (pc := 21) (ls := [some (vR 2), some (vR 150), some (vI l2), some (vI l3)]) (st' := []) (σ := σ) hf rfl (fun _ h => (c_Tokens_pack h).mono (by decide)) (fun r1 hf => ?_)
      refine run_seg (k := 2) (s' := (25, [some (vR 2), some (vR 150), some (vI r1), some (vI (w32 (l3 + 1)))], [], σ)) rfl ?_
      refine run_let (fun x2 => (25, [some (vR 2), some (vR 150), some (vI r1), some (vI x2)], [], σ)) hf (fun x2 hf => ?_)
      refine run_seg (k := 1) (s' := (4, [some (vR 2), some (vR 150), some (vI r1), some (vI x2)], [], σ)) rfl ?_
      exact ih hf
    · refine run_seg (k := 4) (s' := (if σ 2 6 = 3 then (36, [some (vR 2), some (vR 150), some (vI l2), some (vI l3)], [], σ) else (48, [some (vR 2), some (vR 150), some (vI l2), some (vI l3)], [], σ))) rfl ?_
      refine run_ite hf (fun _ hf => ?_) (fun _ hf => ?_)
      · refine run_seg (k := 4) (s' := (if σ 2 7 = l2 then (44, [some (vR 2), some (vR 150), some (vI l2), some (vI l3)], [], σ) else (48, [some (vR 2), some (vR 150), some (vI l2), some (vI l3)], [], σ))) rfl ?_
        refine run_ite hf (fun _ hf => ?_) (fun _ hf => ?_)
        · refine run_seg (k := 2) (s' := (49, [some (vR 2), some (vR 150), some (vI l2), some (vI l3)], [vI 1], σ)) rfl ?_
          exact run_ret hf rfl
        · refine run_seg (k := 1) (s' := (49, [some (vR 2), some (vR 150), some (vI l2), some (vI l3)], [vI 0], σ)) rfl ?_
          exact run_ret hf rfl
      · refine run_seg (k := 1) (s' := (49, [some (vR 2), some (vR 150), some (vI l2), some (vI l3)], [vI 0], σ)) rfl ?_
        exact run_ret hf rfl
theorem c_Tokens_is_150 {σ : xSt} {r : Int} (hf : f_Tokens_is 150 σ = some r) : Call (1 + 1) 117 [vR 2, vR 150] σ ((tI σ) r).1 ((tI σ) r).2 := by
  unfold f_Tokens_is at hf
  refine call_of (own := 9) (rk := 2) (cd := kX9_is) (ls := [some (vR 2), some (vR 150), none, none]) (rT := (tI σ)) rfl rfl rfl rfl rfl ?_
  refine run_seg (k := 4) (s' := (4, [some (vR 2), some (vR 150), some (vI 0), some (vI 0)], [], σ)) rfl ?_
  exact r_Tokens_is_4_150 1000000 hf
theorem r_Tokens_is_4_151 : ∀ (n : Nat) {l2 : Int} {l3 : Int} {σ : xSt} {r : Int}, f_Tokens_is_4 151 n l2 l3 σ = some r → Run 1 9 2 kX9_is (4, [some (vR 2), some (vR 151), some (vI l2), some (vI l3)], [], σ) ((tI σ) r) := by
  intro n
  induction n with
  | zero =>
    intro _ _ _ _ h
    exact nomatch (show (none : Option (Int)) = some _ from h)
  | succ n ih =>
    intro l2 l3 σ r hf
    unfold f_Tokens_is_4 at hf
    refine run_seg (k := 4) (s' := (if l3 < slen 151 then (12, [some (vR 2), some (vR 151), some (vI l2), some (vI l3)], [], σ) else (28, [some (vR 2), some (vR 151), some (vI l2), some (vI l3)], [], σ))) rfl ?_
    refine run_ite hf (fun _ hf => ?_) (fun _ hf => ?_)
    · refine run_seg (k := 3) (s' := (15, [some (vR 2), some (vR 151), some (vI l2), some (vI l3)], [vI l3, vR 151, vI l2], σ)) rfl ?_
      refine run_guard (s' := (18, [some (vR 2), some (vR 151), some (vI l2), some (vI l3)], [vI (sch 151 l3), vI l2], σ)) hf rfl (fun hf => ?_)
      refine run_callN (w := fun a => some (vI a)) (m := 114) (as := [vI l2, vI (sch 151 l3)]) (pc := 21) (ls := [some (vR 2), some (vR 151), some (vI l2), some (vI l3)]) (st' := []) (σ := σ) hf rfl (fun _ h => (c_Tokens_pack h).mono (by decide)) (fun r1 hf => ?_)
      refine run_seg (k := 2) (s' := (25, [some (vR 2), some (vR 151), some (vI r1), some (vI (w32 (l3 + 1)))], [], σ)) rfl ?_
      refine run_let (fun x2 => (25, [some (vR 2), some (vR 151), some (vI r1), some (vI x2)], [], σ)) hf (fun x2 hf => ?_)
      refine run_seg (k := 1) (s' := (4, [some (vR 2), some (vR 151), some (vI r1), some (vI x2)], [], σ)) rfl ?_
      exact ih hf
    · refine run_seg (k := 4) (s' := (if σ 2 6 = 3 then (36, [some (vR 2), some (vR 151), some (vI l2), some (vI l3)], [], σ) else (48, [some (vR 2), some (vR 151), some (vI l2), some (vI l3)], [], σ))) rfl ?_
      refine run_ite hf (fun _ hf => ?_) (fun _ hf => ?_)
      · refine run_seg (k := 4) (s' := (if σ 2 7 = l2 then (44, [some (vR 2), some (vR 151), some (vI l2), some (vI l3)], [], σ) else (48, [some (vR 2), some (vR 151), some (vI l2), some (vI l3)], [], σ))) rfl ?_
        refine run_ite hf (fun _ hf => ?_) (fun _ hf => ?_)
        · refine run_seg (k := 2) (s' := (49, [some (vR 2), some (vR 151), some (vI l2), some (vI l3)], [vI 1], σ)) rfl ?_
          exact run_ret hf rfl
        · refine run_seg (k := 1) (s' := (49, [some (vR 2), some (vR 151), some (vI l2), some (vI l3)], [vI 0], σ)) rfl ?_
          exact run_ret hf rfl
      · refine run_seg (k := 1) (s' := (49, [some (vR 2), some (vR 151), some (vI l2), some (vI l3)], [vI 0], σ)) rfl ?_
        exact run_ret hf rfl
theorem c_Tokens_is_151 {σ : xSt} {r : Int} (hf : f_Tokens_is 151 σ = some r) : Call (1 + 1) 117 [vR 2, vR 151] σ ((tI σ) r).1 ((tI σ) r).2 := by
  unfold f_Tokens_is at hf
  refine call_of (own := 9) (rk := 2) (cd := kX9_is) (ls := [some (vR 2), some (vR 151), none, none]) (rT := (tI σ)) rfl rfl rfl rfl rfl ?_
  refine run_seg (k := 4) (s' := (4, [some (vR 2), some (vR 151), some (vI 0), some (vI 0)], [], σ)) rfl ?_
  exact r_Tokens_is_4_151 1000000 hf
theorem r_Tokens_is_4_152 : ∀ (n : Nat) {l2 : Int} {l3 : Int} {σ : xSt} {r : Int}, f_Tokens_is_4 152 n l2 l3 σ = some r → Run 1 9 2 kX9_is (4, [some (vR 2), some (vR 152), some (vI l2), some (vI l3)], [], σ) ((tI σ) r) := by
  intro n
  induction n with
  | zero =>
    intro _ _ _ _ h
    exact nomatch (show (none : Option (Int)) = some _ from h)
  | succ n ih =>
    intro l2 l3 σ r hf
    unfold f_Tokens_is_4 at hf
    refine run_seg (k := 4) (s' := (if l3 < slen 152 then (12, [some (vR 2), some (vR 152), some (vI l2), some (vI l3)], [], σ) else (28, [some (vR 2), some (vR 152), some (vI l2), some (vI l3)], [], σ))) rfl ?_
    refine run_ite hf (fun _ hf => ?_) (fun _ hf => ?_)
    · refine run_seg (k := 3) (s' := (15, [some (vR 2), some (vR 152), some (vI l2), some (vI l3)], [vI l3, vR 152, vI l2], σ)) rfl ?_
      refine run_guard (s' := (18, [some (vR 2), some (vR 152), some (vI l2), some (vI l3)], [vI (sch 152 l3), vI l2], σ)) hf rfl (fun hf => ?_)
      refine run_callN (w := fun a => some (vI a)) (m := 114) (as := [vI l2, vI (sch 152 l3)]) (pc := 21) (ls := [some (vR 2), some (vR 152), some (vI l2), some (vI l3)]) (st' := []) (σ := σ) hf rfl (fun _ h => (c_Tokens_pack h).mono (by decide)) (fun r1 hf => ?_)
      refine run_seg (k := 2) (s' := (25, [some (vR 2), some (vR 152), some (vI r1), some (vI (w32 (l3 + 1)))], [], σ)) rfl ?_
      refine run_let (fun x2 => (25, [some (vR 2), some (vR 152), some (vI r1), some (vI x2)], [], σ)) hf (fun x2 hf => ?_)
      refine run_seg (k := 1) (s' := (4, [some (vR 2), some (vR 152), some (vI r1), some (vI x2)], [], σ)) rfl ?_
      exact ih hf
    · refine run_seg (k := 4) (s' := (if σ 2 6 = 3 then (36, [some (vR 2), some (vR 152), some (vI l2), some (vI l3)], [], σ) else (48, [some (vR 2), some (vR 152), some (vI l2), some (vI l3)], [], σ))) rfl ?_
      refine run_ite hf (fun _ hf => ?_) (fun _ hf => ?_)
      · refine run_seg (k := 4) (s' := (if σ 2 7 = l2 then (44, [some (vR 2), some (vR 152), some (vI l2), some (vI l3)], [], σ) else (48, [some (vR 2), some (vR 152), some (vI l2), some (vI l3)], [], σ))) rfl ?_
        refine run_ite hf (fun _ hf => ?_) (fun _ hf => ?_)
        · refine run_seg (k := 2) (s' := (49, [some (vR 2), some (vR 152), some (vI l2), some (vI l3)], [vI 1], σ)) rfl ?_
          exact run_ret hf rfl
        · refine run_seg (k := 1) (s' := (49, [some (vR 2), some (vR 152), some (vI l2), some (vI l3)], [vI 0], σ)) rfl ?_
          exact run_ret hf rfl
      · refine run_seg (k := 1) (s' := (49, [some (vR 2), some (vR 152), some (vI l2), some (vI l3)], [vI 0], σ)) rfl ?_
        exact run_ret hf rfl
theorem c_Tokens_is_152 {σ : xSt} {r : Int} (hf : f_Tokens_is 152 σ = some r) : Call (1 + 1) 117 [vR 2, vR 152] σ ((tI σ) r).1 ((tI σ) r).2 := by
  unfold f_Tokens_is at hf
  refine call_of (own := 9) (rk := 2) (cd := kX9_is) (ls := [some (vR 2), some (vR 152), none, none]) (rT := (tI σ)) rfl rfl rfl rfl rfl ?_
  refine run_seg (k := 4) (s' := (4, [some (vR 2), some (vR 152), some (vI 0), some (vI 0)], [], σ)) rfl ?_
  exact r_Tokens_is_4_152 1000000 hf
theorem r_Tokens_is_4_153 : ∀ (n : Nat) {l2 : Int} {l3 : Int} {σ : xSt} {r : Int}, f_Tokens_is_4 153 n l2 l3 σ = some r → Run 1 9 2 kX9_is (4, [some (vR 2), some (vR 153), some (vI l2), some (vI l3)], [], σ) ((tI σ) r) := by
  intro n
  induction n with
  | zero =>
    intro _ _ _ _ h
    exact nomatch (show (none : Option (Int)) = some _ from h)
  | succ n ih =>
    intro l2 l3 σ r hf
    unfold f_Tokens_is_4 at hf
    refine run_seg (k := 4) (s' := (if l3 < slen 153 then (12, [some (vR 2), some (vR 153), some (vI l2), some (vI l3)], [], σ) else (28, [some (vR 2), some (vR 153), some (vI l2), some (vI l3)], [], σ))) rfl ?_
    refine run_ite hf (fun _ hf => ?_) (fun _ hf => ?_)
    · refine run_seg (k := 3) (s' := (15, [some (vR 2), some (vR 153), some (vI l2), some (vI l3)], [vI l3, vR 153, vI l2], σ)) rfl ?_
      refine run_guard (s' := (18, [some (vR 2), some (vR 153), some (vI l2), some (vI l3)], [vI (sch 153 l3), vI l2], σ)) hf rfl (fun hf => ?_)
      refine run_callN (w := fun a => some (vI a)) (m := 114) (as := [vI l2, vI (sch 153 l3)]) (pc := 21) (ls := [some (vR 2), some (vR 153), some (vI l2), some (vI l3)]) (st' := []) (σ := σ) hf rfl (fun _ h => (c_Tokens_pack h).mono (by decide)) (fun r1 hf => ?_)
      refine run_seg (k := 2) (s' := (25, [some (vR 2), some (vR 153), some (vI r1), some (vI (w32 (l3 + 1)))], [], σ)) rfl ?_
      refine run_let (fun x2 => (25, [some (vR 2), some (vR 153), some (vI r1), some (vI x2)], [], σ)) hf (fun x2 hf => ?_)
      refine run_seg (k := 1) (s' := (4, [some (vR 2), some (vR 153), some (vI r1), some (vI x2)], [], σ)) rfl ?_
      exact ih hf
    · refine run_seg (k := 4) (s' := (if σ 2 6 = 3 then (36, [some (vR 2), some (vR 153), some (vI l2), some (vI l3)], [], σ) else (48, [some (vR 2), some (vR 153), some (vI l2), some (vI l3)], [], σ))) rfl ?_
      refine run_ite hf (fun _ hf => ?_) (fun _ hf => ?_)
      · refine run_seg (k := 4) (s' := (if σ 2 7 = l2 then (44, [some (vR 2), some (vR 153), some (vI l2), some (vI l3)], [], σ) else (48, [some (vR 2), some (vR 153), some (vI l2), some (vI l3)], [], σ))) rfl ?_
        refine run_ite hf (fun _ hf => ?_) (fun _ hf => ?_)
        · refine run_seg (k := 2) (s' := (49, [some (vR 2), some (vR 153), some (vI l2), some (vI l3)], [vI 1], σ)) rfl ?_
          exact run_ret hf rfl
        · refine run_seg (k := 1) (s' := (49, [some (vR 2), some (vR 153), some (vI l2), some (vI l3)], [vI 0], σ)) rfl ?_
          exact run_ret hf rfl
      · refine run_seg (k := 1) (s' := (49, [some (vR 2), some (vR 153), some (vI l2), some (vI l3)], [vI 0], σ)) rfl ?_
        exact run_ret hf rfl
theorem c_Tokens_is_153 {σ : xSt} {r : Int} (hf : f_Tokens_is 153 σ = some r) : Call (1 + 1) 117 [vR 2, vR 153] σ ((tI σ) r).1 ((tI σ) r).2 := by
  unfold f_Tokens_is at hf
  refine call_of (own := 9) (rk := 2) (cd := kX9_is) (ls := [some (vR 2), some (vR 153), none, none]) (rT := (tI σ)) rfl rfl rfl rfl rfl ?_
  refine run_seg (k := 4) (s' := (4, [some (vR 2), some (vR 153), some (vI 0), some (vI 0)], [], σ)) rfl ?_
  exact r_Tokens_is_4_153 1000000 hf
theorem r_Tokens_is_4_155 : ∀ (n : Nat) {l2 : Int} {l3 : Int} {σ : xSt} {r : Int}, f_Tokens_is_4 155 n l2 l3 σ = some r → Run 1 9 2 kX9_is (4, [some (vR 2), some (vR 155), some (vI l2), some (vI l3)], [], σ) ((tI σ) r) := by
  intro n
  induction n with
  | zero =>
    intro _ _ _ _ h
    exact nomatch (show (none : Option (Int)) = some _ from h)
  | succ n ih =>
    intro l2 l3 σ r hf
    unfold f_Tokens_is_4 at hf
    refine run_seg (k := 4) (s' := (if l3 < slen 155 then (12, [some (vR 2), some (vR 155), some (vI l2), some (vI l3)], [], σ) else (28, [some (vR 2), some (vR 155), some (vI l2), some (vI l3)], [], σ))) rfl ?_
    refine run_ite hf (fun _ hf => ?_) (fun _ hf => ?_)
    · refine run_seg (k := 3) (s' := (15, [some (vR 2), some (vR 155), some (vI l2), some (vI l3)], [vI l3, vR 155, vI l2], σ)) rfl ?_
      refine run_guard (s' := (18, [some (vR 2), some (vR 155), some (vI l2), some (vI l3)], [vI (sch 155 l3), vI l2], σ)) hf rfl (fun hf => ?_)
      refine run_callN (w := fun a => some (vI a)) (m := 114) (as := [vI l2, vI (sch 155 l3)]) (pc := 21) (ls := [some (vR 2), some (vR 155), some (vI l2), some (vI l3)]) (st' := []) (σ := σ) hf rfl (fun _ h => (c_Tokens_pack h).mono (by decide)) (fun r1 hf => ?_)
      refine run_seg (k := 2) (s' := (25, [some (vR 2), some (vR 155), some (vI r1), some (vI (w32 (l3 + 1)))], [], σ)) rfl ?_
      refine run_let (fun x2 => (25, [some (vR 2), some (vR 155), some (vI r1), some (vI x2)], [], σ)) hf (fun x2 hf => ?_)
      refine run_seg (k := 1) (s' := (4, [some (vR 2), some (vR 155), some (vI r1), some (vI x2)], [], σ)) rfl ?_
      exact ih hf
    · refine run_seg (k := 4) (s' := (if σ 2 6 = 3 then (36, [some (vR 2), some (vR 155), some (vI l2), some (vI l3)], [], σ) else (48, [some (vR 2), some (vR 155), some (vI l2), some (vI l3)], [], σ))) rfl ?_
      refine run_ite hf (fun _ hf => ?_) (fun _ hf => ?_)
      · refine run_seg (k := 4) (s' := (if σ 2 7 = l2 then (44, [some (vR 2), some (vR 155), some (vI l2), some (vI l3)], [], σ) else (48, [some (vR 2), some (vR 155), some (vI l2), some (vI l3)], [], σ))) rfl ?_
        refine run_ite hf (fun _ hf => ?_) (fun _ hf => ?_)
        · refine run_seg (k := 2) (s' := (49, [some (vR 2), some (vR 155), some (vI l2), some (vI l3)], [vI 1], σ)) rfl ?_
          exact run_ret hf rfl
        · refine run_seg (k := 1) (s' := (49, [some (vR 2), some (vR 155), some (vI l2), some (vI l3)], [vI 0], σ)) rfl ?_
          exact run_ret hf rfl
      · refine run_seg (k := 1) (s' := (49, [some (vR 2), some (vR 155), some (vI l2), some (vI l3)], [vI 0], σ)) rfl ?_
        exact run_ret hf rfl
theorem c_Tokens_is_155 {σ : xSt} {r : Int} (hf : f_Tokens_is 155 σ = some r) : Call (1 + 1) 117 [vR 2, vR 155] σ ((tI σ) r).1 ((tI σ) r).2 := by
  unfold f_Tokens_is at hf
  refine call_of (own := 9) (rk := 2) (cd := kX9_is) (ls := [some (vR 2), some (vR 155), none, none]) (rT := (tI σ)) rfl rfl rfl rfl rfl ?_
  refine run_seg (k := 4) (s' := (4, [some (vR 2), some (vR 155), some (vI 0), some (vI 0)], [], σ)) rfl ?_
  exact r_Tokens_is_4_155 1000000 hf
/-- BentPenny$Tokens.fail(I)Z -/
def f_Tokens_fail (p1 : Int) (σ : xSt) : Option (Int × xSt) :=
  if σ 2 9 = 0 then (xlet (upS σ 2 9 p1) fun σ1 =>
  xlet (upS σ1 2 10 (σ1 2 8)) fun σ2 =>
  some (0, σ2))
  else (some (0, σ))
theorem c_Tokens_fail {p1 : Int} {σ : xSt} {r : Int × xSt} (hf : f_Tokens_fail p1 σ = some r) : Call (0 + 1) 122 [vR 2, vI p1] σ (tIW r).1 (tIW r).2 := by
  unfold f_Tokens_fail at hf
  refine call_of (own := 9) (rk := 2) (cd := kX9_fail) (ls := [some (vR 2), some (vI p1)]) (rT := tIW) rfl rfl rfl rfl rfl ?_
  refine run_seg (k := 3) (s' := (if σ 2 9 = 0 then (7, [some (vR 2), some (vI p1)], [], σ) else (20, [some (vR 2), some (vI p1)], [], σ))) rfl ?_
  refine run_ite hf (fun _ hf => ?_) (fun _ hf => ?_)
  · refine run_seg (k := 3) (s' := (12, [some (vR 2), some (vI p1)], [], upS σ 2 9 p1)) rfl ?_
    refine run_let (fun σ1 => (12, [some (vR 2), some (vI p1)], [], σ1)) hf (fun σ1 hf => ?_)
    refine run_seg (k := 4) (s' := (20, [some (vR 2), some (vI p1)], [], upS σ1 2 10 (σ1 2 8))) rfl ?_
    refine run_let (fun σ2 => (20, [some (vR 2), some (vI p1)], [], σ2)) hf (fun σ2 hf => ?_)
    refine run_seg (k := 1) (s' := (21, [some (vR 2), some (vI p1)], [vI 0], σ2)) rfl ?_
    exact run_ret hf rfl
  · refine run_seg (k := 1) (s' := (21, [some (vR 2), some (vI p1)], [vI 0], σ)) rfl ?_
    exact run_ret hf rfl
/-- BentPenny$Tokens.isName()Z -/
def f_Tokens_isName (σ : xSt) : Option (Int) :=
  if σ 2 6 = 4 then (some 1)
  else (some 0)
theorem c_Tokens_isName {σ : xSt} {r : Int} (hf : f_Tokens_isName σ = some r) : Call (0 + 1) 118 [vR 2] σ ((tI σ) r).1 ((tI σ) r).2 := by
  unfold f_Tokens_isName at hf
  refine call_of (own := 9) (rk := 2) (cd := kX9_isName) (ls := [some (vR 2)]) (rT := (tI σ)) rfl rfl rfl rfl rfl ?_
  refine run_seg (k := 4) (s' := (if σ 2 6 = 4 then (8, [some (vR 2)], [], σ) else (12, [some (vR 2)], [], σ))) rfl ?_
  refine run_ite hf (fun _ hf => ?_) (fun _ hf => ?_)
  · refine run_seg (k := 2) (s' := (13, [some (vR 2)], [vI 1], σ)) rfl ?_
    exact run_ret hf rfl
  · refine run_seg (k := 1) (s' := (13, [some (vR 2)], [vI 0], σ)) rfl ?_
    exact run_ret hf rfl
def f_Table_thingNamed_2 (a0 : Nat) : Nat → Int → Int → xSt → Option (Int)
  | 0, _, _, _ => none
  | n + 1, l1, l2, σ =>
    if l2 < σ a0 1 then (if l2 < 3 then (if 0 ≤ l2 ∧ l2 < 3 then (
    if σ (a0 + 1) l2.toNat = l1 then (some l2)
    else (xlet (w32 (l2 + 1)) fun x1 =>
    f_Table_thingNamed_2 a0 n l1 x1 σ)) else none)
    else (some (-1)))
    else (some (-1))
/-- BentPenny$Table.thingNamed(I)I -/
def f_Table_thingNamed (a0 : Nat) (p1 : Int) (σ : xSt) : Option (Int) :=
  f_Table_thingNamed_2 a0 1000000 p1 0 σ
theorem r_Table_thingNamed_2_7 : ∀ (n : Nat) {l1 : Int} {l2 : Int} {σ : xSt} {r : Int}, f_Table_thingNamed_2 7 n l1 l2 σ = some r → Run 0 8 1 kX8_thingNamed (2, [some (vR 7), some (vI l1), some (vI l2)], [], σ) ((tI σ) r) := by
  intro n
  induction n with
  | zero =>
    intro _ _ _ _ h
    exact nomatch (show (none : Option (Int)) = some _ from h)
  | succ n ih =>
    intro l1 l2 σ r hf
    unfold f_Table_thingNamed_2 at hf
    refine run_seg (k := 4) (s' := (if l2 < σ 7 1 then (10, [some (vR 7), some (vI l1), some (vI l2)], [], σ) else (33, [some (vR 7), some (vI l1), some (vI l2)], [], σ))) rfl ?_
    refine run_ite hf (fun _ hf => ?_) (fun _ hf => ?_)
    · refine run_seg (k := 3) (s' := (if l2 < 3 then (15, [some (vR 7), some (vI l1), some (vI l2)], [], σ) else (33, [some (vR 7), some (vI l1), some (vI l2)], [], σ))) rfl ?_
      refine run_ite hf (fun _ hf => ?_) (fun _ hf => ?_)
      · refine run_seg (k := 3) (s' := (20, [some (vR 7), some (vI l1), some (vI l2)], [vI l2, vR 8], σ)) rfl ?_
        refine run_guard (s' := (21, [some (vR 7), some (vI l1), some (vI l2)], [vI (σ 8 l2.toNat)], σ)) hf rfl (fun hf => ?_)
        refine run_seg (k := 2) (s' := (if σ 8 l2.toNat = l1 then (25, [some (vR 7), some (vI l1), some (vI l2)], [], σ) else (27, [some (vR 7), some (vI l1), some (vI l2)], [], σ))) rfl ?_
        refine run_ite hf (fun _ hf => ?_) (fun _ hf => ?_)
        · refine run_seg (k := 1) (s' := (26, [some (vR 7), some (vI l1), some (vI l2)], [vI l2], σ)) rfl ?_
          exact run_ret hf rfl
        · refine run_seg (k := 1) (s' := (30, [some (vR 7), some (vI l1), some (vI (w32 (l2 + 1)))], [], σ)) rfl ?_
          refine run_let (fun x1 => (30, [some (vR 7), some (vI l1), some (vI x1)], [], σ)) hf (fun x1 hf => ?_)
          refine run_seg (k := 1) (s' := (2, [some (vR 7), some (vI l1), some (vI x1)], [], σ)) rfl ?_
          exact ih hf
      · refine run_seg (k := 1) (s' := (34, [some (vR 7), some (vI l1), some (vI l2)], [vI (-1)], σ)) rfl ?_
        exact run_ret hf rfl
    · refine run_seg (k := 1) (s' := (34, [some (vR 7), some (vI l1), some (vI l2)], [vI (-1)], σ)) rfl ?_
      exact run_ret hf rfl
theorem c_Table_thingNamed_7 {p1 : Int} {σ : xSt} {r : Int} (hf : f_Table_thingNamed 7 p1 σ = some r) : Call (0 + 1) 95 [vR 7, vI p1] σ ((tI σ) r).1 ((tI σ) r).2 := by
  unfold f_Table_thingNamed at hf
  refine call_of (own := 8) (rk := 1) (cd := kX8_thingNamed) (ls := [some (vR 7), some (vI p1), none]) (rT := (tI σ)) rfl rfl rfl rfl rfl ?_
  refine run_seg (k := 2) (s' := (2, [some (vR 7), some (vI p1), some (vI 0)], [], σ)) rfl ?_
  exact r_Table_thingNamed_2_7 1000000 hf
theorem r_Table_thingNamed_2_27 : ∀ (n : Nat) {l1 : Int} {l2 : Int} {σ : xSt} {r : Int}, f_Table_thingNamed_2 27 n l1 l2 σ = some r → Run 0 8 1 kX8_thingNamed (2, [some (vR 27), some (vI l1), some (vI l2)], [], σ) ((tI σ) r) := by
  intro n
  induction n with
  | zero =>
    intro _ _ _ _ h
    exact nomatch (show (none : Option (Int)) = some _ from h)
  | succ n ih =>
    intro l1 l2 σ r hf
    unfold f_Table_thingNamed_2 at hf
    refine run_seg (k := 4) (s' := (if l2 < σ 27 1 then (10, [some (vR 27), some (vI l1), some (vI l2)], [], σ) else (33, [some (vR 27), some (vI l1), some (vI l2)], [], σ))) rfl ?_
    refine run_ite hf (fun _ hf => ?_) (fun _ hf => ?_)
    · refine run_seg (k := 3) (s' := (if l2 < 3 then (15, [some (vR 27), some (vI l1), some (vI l2)], [], σ) else (33, [some (vR 27), some (vI l1), some (vI l2)], [], σ))) rfl ?_
      refine run_ite hf (fun _ hf => ?_) (fun _ hf => ?_)
      · refine run_seg (k := 3) (s' := (20, [some (vR 27), some (vI l1), some (vI l2)], [vI l2, vR 28], σ)) rfl ?_
        refine run_guard (s' := (21, [some (vR 27), some (vI l1), some (vI l2)], [vI (σ 28 l2.toNat)], σ)) hf rfl (fun hf => ?_)
        refine run_seg (k := 2) (s' := (if σ 28 l2.toNat = l1 then (25, [some (vR 27), some (vI l1), some (vI l2)], [], σ) else (27, [some (vR 27), some (vI l1), some (vI l2)], [], σ))) rfl ?_
        refine run_ite hf (fun _ hf => ?_) (fun _ hf => ?_)
        · refine run_seg (k := 1) (s' := (26, [some (vR 27), some (vI l1), some (vI l2)], [vI l2], σ)) rfl ?_
          exact run_ret hf rfl
        · refine run_seg (k := 1) (s' := (30, [some (vR 27), some (vI l1), some (vI (w32 (l2 + 1)))], [], σ)) rfl ?_
          refine run_let (fun x1 => (30, [some (vR 27), some (vI l1), some (vI x1)], [], σ)) hf (fun x1 hf => ?_)
          refine run_seg (k := 1) (s' := (2, [some (vR 27), some (vI l1), some (vI x1)], [], σ)) rfl ?_
          exact ih hf
      · refine run_seg (k := 1) (s' := (34, [some (vR 27), some (vI l1), some (vI l2)], [vI (-1)], σ)) rfl ?_
        exact run_ret hf rfl
    · refine run_seg (k := 1) (s' := (34, [some (vR 27), some (vI l1), some (vI l2)], [vI (-1)], σ)) rfl ?_
      exact run_ret hf rfl
theorem c_Table_thingNamed_27 {p1 : Int} {σ : xSt} {r : Int} (hf : f_Table_thingNamed 27 p1 σ = some r) : Call (0 + 1) 95 [vR 27, vI p1] σ ((tI σ) r).1 ((tI σ) r).2 := by
  unfold f_Table_thingNamed at hf
  refine call_of (own := 8) (rk := 1) (cd := kX8_thingNamed) (ls := [some (vR 27), some (vI p1), none]) (rT := (tI σ)) rfl rfl rfl rfl rfl ?_
  refine run_seg (k := 2) (s' := (2, [some (vR 27), some (vI p1), some (vI 0)], [], σ)) rfl ?_
  exact r_Table_thingNamed_2_27 1000000 hf
def f_Table_endNamed_2 (a0 : Nat) : Nat → Int → Int → xSt → Option (Int)
  | 0, _, _, _ => none
  | n + 1, l1, l2, σ =>
    if l2 < σ a0 2 then (if l2 < 6 then (if 0 ≤ l2 ∧ l2 < 6 then (
    if σ (a0 + 6) l2.toNat = l1 then (some l2)
    else (xlet (w32 (l2 + 1)) fun x1 =>
    f_Table_endNamed_2 a0 n l1 x1 σ)) else none)
    else (some (-1)))
    else (some (-1))
/-- BentPenny$Table.endNamed(I)I -/
def f_Table_endNamed (a0 : Nat) (p1 : Int) (σ : xSt) : Option (Int) :=
  f_Table_endNamed_2 a0 1000000 p1 0 σ
theorem r_Table_endNamed_2_7 : ∀ (n : Nat) {l1 : Int} {l2 : Int} {σ : xSt} {r : Int}, f_Table_endNamed_2 7 n l1 l2 σ = some r → Run 0 8 1 kX8_endNamed (2, [some (vR 7), some (vI l1), some (vI l2)], [], σ) ((tI σ) r) := by
  intro n
  induction n with
  | zero =>
    intro _ _ _ _ h
    exact nomatch (show (none : Option (Int)) = some _ from h)
  | succ n ih =>
    intro l1 l2 σ r hf
    unfold f_Table_endNamed_2 at hf
    refine run_seg (k := 4) (s' := (if l2 < σ 7 2 then (10, [some (vR 7), some (vI l1), some (vI l2)], [], σ) else (34, [some (vR 7), some (vI l1), some (vI l2)], [], σ))) rfl ?_
    refine run_ite hf (fun _ hf => ?_) (fun _ hf => ?_)
    · refine run_seg (k := 3) (s' := (if l2 < 6 then (16, [some (vR 7), some (vI l1), some (vI l2)], [], σ) else (34, [some (vR 7), some (vI l1), some (vI l2)], [], σ))) rfl ?_
      refine run_ite hf (fun _ hf => ?_) (fun _ hf => ?_)
      · refine run_seg (k := 3) (s' := (21, [some (vR 7), some (vI l1), some (vI l2)], [vI l2, vR 13], σ)) rfl ?_
        refine run_guard (s' := (22, [some (vR 7), some (vI l1), some (vI l2)], [vI (σ 13 l2.toNat)], σ)) hf rfl (fun hf => ?_)
        refine run_seg (k := 2) (s' := (if σ 13 l2.toNat = l1 then (26, [some (vR 7), some (vI l1), some (vI l2)], [], σ) else (28, [some (vR 7), some (vI l1), some (vI l2)], [], σ))) rfl ?_
        refine run_ite hf (fun _ hf => ?_) (fun _ hf => ?_)
        · refine run_seg (k := 1) (s' := (27, [some (vR 7), some (vI l1), some (vI l2)], [vI l2], σ)) rfl ?_
          exact run_ret hf rfl
        · refine run_seg (k := 1) (s' := (31, [some (vR 7), some (vI l1), some (vI (w32 (l2 + 1)))], [], σ)) rfl ?_
          refine run_let (fun x1 => (31, [some (vR 7), some (vI l1), some (vI x1)], [], σ)) hf (fun x1 hf => ?_)
          refine run_seg (k := 1) (s' := (2, [some (vR 7), some (vI l1), some (vI x1)], [], σ)) rfl ?_
          exact ih hf
      · refine run_seg (k := 1) (s' := (35, [some (vR 7), some (vI l1), some (vI l2)], [vI (-1)], σ)) rfl ?_
        exact run_ret hf rfl
    · refine run_seg (k := 1) (s' := (35, [some (vR 7), some (vI l1), some (vI l2)], [vI (-1)], σ)) rfl ?_
      exact run_ret hf rfl
theorem c_Table_endNamed_7 {p1 : Int} {σ : xSt} {r : Int} (hf : f_Table_endNamed 7 p1 σ = some r) : Call (0 + 1) 96 [vR 7, vI p1] σ ((tI σ) r).1 ((tI σ) r).2 := by
  unfold f_Table_endNamed at hf
  refine call_of (own := 8) (rk := 1) (cd := kX8_endNamed) (ls := [some (vR 7), some (vI p1), none]) (rT := (tI σ)) rfl rfl rfl rfl rfl ?_
  refine run_seg (k := 2) (s' := (2, [some (vR 7), some (vI p1), some (vI 0)], [], σ)) rfl ?_
  exact r_Table_endNamed_2_7 1000000 hf
theorem r_Table_endNamed_2_27 : ∀ (n : Nat) {l1 : Int} {l2 : Int} {σ : xSt} {r : Int}, f_Table_endNamed_2 27 n l1 l2 σ = some r → Run 0 8 1 kX8_endNamed (2, [some (vR 27), some (vI l1), some (vI l2)], [], σ) ((tI σ) r) := by
  intro n
  induction n with
  | zero =>
    intro _ _ _ _ h
    exact nomatch (show (none : Option (Int)) = some _ from h)
  | succ n ih =>
    intro l1 l2 σ r hf
    unfold f_Table_endNamed_2 at hf
    refine run_seg (k := 4) (s' := (if l2 < σ 27 2 then (10, [some (vR 27), some (vI l1), some (vI l2)], [], σ) else (34, [some (vR 27), some (vI l1), some (vI l2)], [], σ))) rfl ?_
    refine run_ite hf (fun _ hf => ?_) (fun _ hf => ?_)
    · refine run_seg (k := 3) (s' := (if l2 < 6 then (16, [some (vR 27), some (vI l1), some (vI l2)], [], σ) else (34, [some (vR 27), some (vI l1), some (vI l2)], [], σ))) rfl ?_
      refine run_ite hf (fun _ hf => ?_) (fun _ hf => ?_)
      · refine run_seg (k := 3) (s' := (21, [some (vR 27), some (vI l1), some (vI l2)], [vI l2, vR 33], σ)) rfl ?_
        refine run_guard (s' := (22, [some (vR 27), some (vI l1), some (vI l2)], [vI (σ 33 l2.toNat)], σ)) hf rfl (fun hf => ?_)
        refine run_seg (k := 2) (s' := (if σ 33 l2.toNat = l1 then (26, [some (vR 27), some (vI l1), some (vI l2)], [], σ) else (28, [some (vR 27), some (vI l1), some (vI l2)], [], σ))) rfl ?_
        refine run_ite hf (fun _ hf => ?_) (fun _ hf => ?_)
        · refine run_seg (k := 1) (s' := (27, [some (vR 27), some (vI l1), some (vI l2)], [vI l2], σ)) rfl ?_
          exact run_ret hf rfl
        · refine run_seg (k := 1) (s' := (31, [some (vR 27), some (vI l1), some (vI (w32 (l2 + 1)))], [], σ)) rfl ?_
          refine run_let (fun x1 => (31, [some (vR 27), some (vI l1), some (vI x1)], [], σ)) hf (fun x1 hf => ?_)
          refine run_seg (k := 1) (s' := (2, [some (vR 27), some (vI l1), some (vI x1)], [], σ)) rfl ?_
          exact ih hf
      · refine run_seg (k := 1) (s' := (35, [some (vR 27), some (vI l1), some (vI l2)], [vI (-1)], σ)) rfl ?_
        exact run_ret hf rfl
    · refine run_seg (k := 1) (s' := (35, [some (vR 27), some (vI l1), some (vI l2)], [vI (-1)], σ)) rfl ?_
      exact run_ret hf rfl
theorem c_Table_endNamed_27 {p1 : Int} {σ : xSt} {r : Int} (hf : f_Table_endNamed 27 p1 σ = some r) : Call (0 + 1) 96 [vR 27, vI p1] σ ((tI σ) r).1 ((tI σ) r).2 := by
  unfold f_Table_endNamed at hf
  refine call_of (own := 8) (rk := 1) (cd := kX8_endNamed) (ls := [some (vR 27), some (vI p1), none]) (rT := (tI σ)) rfl rfl rfl rfl rfl ?_
  refine run_seg (k := 2) (s' := (2, [some (vR 27), some (vI p1), some (vI 0)], [], σ)) rfl ?_
  exact r_Table_endNamed_2_27 1000000 hf
def f_Table_readName_56 (a2 : Nat) (σ : xSt) : Option (Int × xSt) :=
  xbW (f_Tokens_fail 3 σ) fun r12 σ13 =>
  some (xnb r12, σ13)
/-- BentPenny$Table.readName(LBentPenny$Tokens;[II)Z -/
def f_Table_readName (a2 : Nat) (p3 : Int) (σ : xSt) : Option (Int × xSt) :=
  xbR (f_X_isWithin p3 (((lay a2).2 : Nat) : Int) σ) fun r1 =>
  if r1 = 0 then (xbW (f_Tokens_fail 4 σ) fun r2 σ3 =>
  some (xnb r2, σ3))
  else (xbR (f_Tokens_step σ) fun σ4 =>
  xbR (f_Tokens_isName σ4) fun r5 =>
  if r5 = 0 then (xbW (f_Tokens_fail 1 σ4) fun r6 σ7 =>
  some (xnb r6, σ7))
  else (xbR (f_Table_thingNamed 27 (σ4 2 7) σ4) fun r8 =>
  if r8 = (-1) then (xbR (f_Table_endNamed 27 (σ4 2 7) σ4) fun r9 =>
  if r9 = (-1) then (if 0 ≤ p3 ∧ p3 < (((lay a2).2 : Nat) : Int) then (
  xlet (upS σ4 a2 p3.toNat (σ4 2 7)) fun σ10 =>
  xbR (f_Tokens_step σ10) fun σ11 =>
  some (1, σ11)) else none)
  else (f_Table_readName_56 a2 σ4))
  else (f_Table_readName_56 a2 σ4)))
theorem r_Table_readName_56_28 {g0 : Option xV} {g2 : Option xV} {g3 : Option xV} {σ : xSt} {r : Int × xSt} (hf : f_Table_readName_56 28 σ = some r) : Run 2 8 2 kX8_readName (56, [g0, some (vR 2), g2, g3], [], σ) (tIW r) := by
  unfold f_Table_readName_56 at hf
  refine run_seg (k := 2) (s' := (58, [g0, some (vR 2), g2, g3], [vI 3, vR 2], σ)) rfl ?_
  refine run_callW (w := fun a => some (vI a)) (m := 122) (as := [vR 2, vI 3]) (pc := 61) (ls := [g0, some (vR 2), g2, g3]) (st' := []) (σ := σ) hf rfl (fun _ _ h => (c_Tokens_fail h).mono (by decide)) (fun r12 σ13 hf => ?_)
  exact run_ret hf rfl
theorem c_Table_readName_28 {p3 : Int} {σ : xSt} {r : Int × xSt} (hf : f_Table_readName 28 p3 σ = some r) : Call (2 + 1) 101 [vR 27, vR 2, vR 28, vI p3] σ (tIW r).1 (tIW r).2 := by
  unfold f_Table_readName at hf
  refine call_of (own := 8) (rk := 2) (cd := kX8_readName) (ls := [some (vR 27), some (vR 2), some (vR 28), some (vI p3)]) (rT := tIW) rfl rfl rfl rfl rfl ?_
  refine run_seg (k := 3) (s' := (3, [some (vR 27), some (vR 2), some (vR 28), some (vI p3)], [vI (((lay 28).2 : Nat) : Int), vI p3], σ)) rfl ?_
  refine run_callN (w := fun a => some (vI a)) (m := 207) (as := [vI p3, vI (((lay 28).2 : Nat) : Int)]) (pc := 6) (ls := [some (vR 27), some (vR 2), some (vR 28), some (vI p3)]) (st' := []) (σ := σ) hf rfl (fun _ h => (c_X_isWithin h).mono (by decide)) (fun r1 hf => ?_)
  refine run_seg (k := 1) (s' := (if r1 = 0 then (9, [some (vR 27), some (vR 2), some (vR 28), some (vI p3)], [], σ) else (15, [some (vR 27), some (vR 2), some (vR 28), some (vI p3)], [], σ))) rfl ?_
  refine run_ite hf (fun _ hf => ?_) (fun _ hf => ?_)
  · refine run_seg (k := 2) (s' := (11, [some (vR 27), some (vR 2), some (vR 28), some (vI p3)], [vI 4, vR 2], σ)) rfl ?_
    refine run_callW (w := fun a => some (vI a)) (m := 122) (as := [vR 2, vI 4]) (pc := 14) (ls := [some (vR 27), some (vR 2), some (vR 28), some (vI p3)]) (st' := []) (σ := σ) hf rfl (fun _ _ h => (c_Tokens_fail h).mono (by decide)) (fun r2 σ3 hf => ?_)
    exact run_ret hf rfl
  · refine run_seg (k := 1) (s' := (16, [some (vR 27), some (vR 2), some (vR 28), some (vI p3)], [vR 2], σ)) rfl ?_
    refine run_callV (m := 116) (as := [vR 2]) (pc := 19) (ls := [some (vR 27), some (vR 2), some (vR 28), some (vI p3)]) (st' := []) (σ := σ) hf rfl (fun _ h => (c_Tokens_step h).mono (by decide)) (fun σ4 hf => ?_)
    refine run_seg (k := 1) (s' := (20, [some (vR 27), some (vR 2), some (vR 28), some (vI p3)], [vR 2], σ4)) rfl ?_
    refine run_callN (w := fun a => some (vI a)) (m := 118) (as := [vR 2]) (pc := 23) (ls := [some (vR 27), some (vR 2), some (vR 28), some (vI p3)]) (st' := []) (σ := σ4) hf rfl (fun _ h => (c_Tokens_isName h).mono (by decide)) (fun r5 hf => ?_)
    refine run_seg (k := 1) (s' := (if r5 = 0 then (26, [some (vR 27), some (vR 2), some (vR 28), some (vI p3)], [], σ4) else (32, [some (vR 27), some (vR 2), some (vR 28), some (vI p3)], [], σ4))) rfl ?_
    refine run_ite hf (fun _ hf => ?_) (fun _ hf => ?_)
    · refine run_seg (k := 2) (s' := (28, [some (vR 27), some (vR 2), some (vR 28), some (vI p3)], [vI 1, vR 2], σ4)) rfl ?_
      refine run_callW (w := fun a => some (vI a)) (m := 122) (as := [vR 2, vI 1]) (pc := 31) (ls := [some (vR 27), some (vR 2), some (vR 28), some (vI p3)]) (st' := []) (σ := σ4) hf rfl (fun _ _ h => (c_Tokens_fail h).mono (by decide)) (fun r6 σ7 hf => ?_)
      exact run_ret hf rfl
    · refine run_seg (k := 3) (s' := (37, [some (vR 27), some (vR 2), some (vR 28), some (vI p3)], [vI (σ4 2 7), vR 27], σ4)) rfl ?_
      refine run_callN (w := fun a => some (vI a)) (m := 95) (as := [vR 27, vI (σ4 2 7)]) (pc := 40) (ls := [some (vR 27), some (vR 2), some (vR 28), some (vI p3)]) (st' := []) (σ := σ4) hf rfl (fun _ h => (c_Table_thingNamed_27 h).mono (by decide)) (fun r8 hf => ?_)
      refine run_seg (k := 2) (s' := (if r8 = (-1) then (44, [some (vR 27), some (vR 2), some (vR 28), some (vI p3)], [], σ4) else (56, [some (vR 27), some (vR 2), some (vR 28), some (vI p3)], [], σ4))) rfl ?_
      refine run_ite hf (fun _ hf => ?_) (fun _ hf => ?_)
      · refine run_seg (k := 3) (s' := (49, [some (vR 27), some (vR 2), some (vR 28), some (vI p3)], [vI (σ4 2 7), vR 27], σ4)) rfl ?_
        refine run_callN (w := fun a => some (vI a)) (m := 96) (as := [vR 27, vI (σ4 2 7)]) (pc := 52) (ls := [some (vR 27), some (vR 2), some (vR 28), some (vI p3)]) (st' := []) (σ := σ4) hf rfl (fun _ h => (c_Table_endNamed_27 h).mono (by decide)) (fun r9 hf => ?_)
        refine run_seg (k := 2) (s' := (if r9 = (-1) then (62, [some (vR 27), some (vR 2), some (vR 28), some (vI p3)], [], σ4) else (56, [some (vR 27), some (vR 2), some (vR 28), some (vI p3)], [], σ4))) rfl ?_
        refine run_ite hf (fun _ hf => ?_) (fun _ hf => ?_)
        · refine run_seg (k := 4) (s' := (68, [some (vR 27), some (vR 2), some (vR 28), some (vI p3)], [vI (σ4 2 7), vI p3, vR 28], σ4)) rfl ?_
          refine run_guard (s' := (69, [some (vR 27), some (vR 2), some (vR 28), some (vI p3)], [], upS σ4 28 p3.toNat (σ4 2 7))) hf rfl (fun hf => ?_)
          refine run_let (fun σ10 => (69, [some (vR 27), some (vR 2), some (vR 28), some (vI p3)], [], σ10)) hf (fun σ10 hf => ?_)
          refine run_seg (k := 1) (s' := (70, [some (vR 27), some (vR 2), some (vR 28), some (vI p3)], [vR 2], σ10)) rfl ?_
          refine run_callV (m := 116) (as := [vR 2]) (pc := 73) (ls := [some (vR 27), some (vR 2), some (vR 28), some (vI p3)]) (st' := []) (σ := σ10) hf rfl (fun _ h => (c_Tokens_step h).mono (by decide)) (fun σ11 hf => ?_)
          refine run_seg (k := 1) (s' := (74, [some (vR 27), some (vR 2), some (vR 28), some (vI p3)], [vI 1], σ11)) rfl ?_
          exact run_ret hf rfl
        · exact r_Table_readName_56_28 hf
      · exact r_Table_readName_56_28 hf
theorem r_Table_readName_56_33 {g0 : Option xV} {g2 : Option xV} {g3 : Option xV} {σ : xSt} {r : Int × xSt} (hf : f_Table_readName_56 33 σ = some r) : Run 2 8 2 kX8_readName (56, [g0, some (vR 2), g2, g3], [], σ) (tIW r) := by
  unfold f_Table_readName_56 at hf
  refine run_seg (k := 2) (s' := (58, [g0, some (vR 2), g2, g3], [vI 3, vR 2], σ)) rfl ?_
  refine run_callW (w := fun a => some (vI a)) (m := 122) (as := [vR 2, vI 3]) (pc := 61) (ls := [g0, some (vR 2), g2, g3]) (st' := []) (σ := σ) hf rfl (fun _ _ h => (c_Tokens_fail h).mono (by decide)) (fun r12 σ13 hf => ?_)
  exact run_ret hf rfl
theorem c_Table_readName_33 {p3 : Int} {σ : xSt} {r : Int × xSt} (hf : f_Table_readName 33 p3 σ = some r) : Call (2 + 1) 101 [vR 27, vR 2, vR 33, vI p3] σ (tIW r).1 (tIW r).2 := by
  unfold f_Table_readName at hf
  refine call_of (own := 8) (rk := 2) (cd := kX8_readName) (ls := [some (vR 27), some (vR 2), some (vR 33), some (vI p3)]) (rT := tIW) rfl rfl rfl rfl rfl ?_
  refine run_seg (k := 3) (s' := (3, [some (vR 27), some (vR 2), some (vR 33), some (vI p3)], [vI (((lay 33).2 : Nat) : Int), vI p3], σ)) rfl ?_
  refine run_callN (w := fun a => some (vI a)) (m := 207) (as := [vI p3, vI (((lay 33).2 : Nat) : Int)]) (pc := 6) (ls := [some (vR 27), some (vR 2), some (vR 33), some (vI p3)]) (st' := []) (σ := σ) hf rfl (fun _ h => (c_X_isWithin h).mono (by decide)) (fun r1 hf => ?_)
  refine run_seg (k := 1) (s' := (if r1 = 0 then (9, [some (vR 27), some (vR 2), some (vR 33), some (vI p3)], [], σ) else (15, [some (vR 27), some (vR 2), some (vR 33), some (vI p3)], [], σ))) rfl ?_
  refine run_ite hf (fun _ hf => ?_) (fun _ hf => ?_)
  · refine run_seg (k := 2) (s' := (11, [some (vR 27), some (vR 2), some (vR 33), some (vI p3)], [vI 4, vR 2], σ)) rfl ?_
    refine run_callW (w := fun a => some (vI a)) (m := 122) (as := [vR 2, vI 4]) (pc := 14) (ls := [some (vR 27), some (vR 2), some (vR 33), some (vI p3)]) (st' := []) (σ := σ) hf rfl (fun _ _ h => (c_Tokens_fail h).mono (by decide)) (fun r2 σ3 hf => ?_)
    exact run_ret hf rfl
  · refine run_seg (k := 1) (s' := (16, [some (vR 27), some (vR 2), some (vR 33), some (vI p3)], [vR 2], σ)) rfl ?_
    refine run_callV (m := 116) (as := [vR 2]) (pc := 19) (ls := [some (vR 27), some (vR 2), some (vR 33), some (vI p3)]) (st' := []) (σ := σ) hf rfl (fun _ h => (c_Tokens_step h).mono (by decide)) (fun σ4 hf => ?_)
    refine run_seg (k := 1) (s' := (20, [some (vR 27), some (vR 2), some (vR 33), some (vI p3)], [vR 2], σ4)) rfl ?_
    refine run_callN (w := fun a => some (vI a)) (m := 118) (as := [vR 2]) (pc := 23) (ls := [some (vR 27), some (vR 2), some (vR 33), some (vI p3)]) (st' := []) (σ := σ4) hf rfl (fun _ h => (c_Tokens_isName h).mono (by decide)) (fun r5 hf => ?_)
    refine run_seg (k := 1) (s' := (if r5 = 0 then (26, [some (vR 27), some (vR 2), some (vR 33), some (vI p3)], [], σ4) else (32, [some (vR 27), some (vR 2), some (vR 33), some (vI p3)], [], σ4))) rfl ?_
    refine run_ite hf (fun _ hf => ?_) (fun _ hf => ?_)
    · refine run_seg (k := 2) (s' := (28, [some (vR 27), some (vR 2), some (vR 33), some (vI p3)], [vI 1, vR 2], σ4)) rfl ?_
      refine run_callW (w := fun a => some (vI a)) (m := 122) (as := [vR 2, vI 1]) (pc := 31) (ls := [some (vR 27), some (vR 2), some (vR 33), some (vI p3)]) (st' := []) (σ := σ4) hf rfl (fun _ _ h => (c_Tokens_fail h).mono (by decide)) (fun r6 σ7 hf => ?_)
      exact run_ret hf rfl
    · refine run_seg (k := 3) (s' := (37, [some (vR 27), some (vR 2), some (vR 33), some (vI p3)], [vI (σ4 2 7), vR 27], σ4)) rfl ?_
      refine run_callN (w := fun a => some (vI a)) (m := 95) (as := [vR 27, vI (σ4 2 7)]) (pc := 40) (ls := [some (vR 27), some (vR 2), some (vR 33), some (vI p3)]) (st' := []) (σ := σ4) hf rfl (fun _ h => (c_Table_thingNamed_27 h).mono (by decide)) (fun r8 hf => ?_)
      refine run_seg (k := 2) (s' := (if r8 = (-1) then (44, [some (vR 27), some (vR 2), some (vR 33), some (vI p3)], [], σ4) else (56, [some (vR 27), some (vR 2), some (vR 33), some (vI p3)], [], σ4))) rfl ?_
      refine run_ite hf (fun _ hf => ?_) (fun _ hf => ?_)
      · refine run_seg (k := 3) (s' := (49, [some (vR 27), some (vR 2), some (vR 33), some (vI p3)], [vI (σ4 2 7), vR 27], σ4)) rfl ?_
        refine run_callN (w := fun a => some (vI a)) (m := 96) (as := [vR 27, vI (σ4 2 7)]) (pc := 52) (ls := [some (vR 27), some (vR 2), some (vR 33), some (vI p3)]) (st' := []) (σ := σ4) hf rfl (fun _ h => (c_Table_endNamed_27 h).mono (by decide)) (fun r9 hf => ?_)
        refine run_seg (k := 2) (s' := (if r9 = (-1) then (62, [some (vR 27), some (vR 2), some (vR 33), some (vI p3)], [], σ4) else (56, [some (vR 27), some (vR 2), some (vR 33), some (vI p3)], [], σ4))) rfl ?_
        refine run_ite hf (fun _ hf => ?_) (fun _ hf => ?_)
        · refine run_seg (k := 4) (s' := (68, [some (vR 27), some (vR 2), some (vR 33), some (vI p3)], [vI (σ4 2 7), vI p3, vR 33], σ4)) rfl ?_
          refine run_guard (s' := (69, [some (vR 27), some (vR 2), some (vR 33), some (vI p3)], [], upS σ4 33 p3.toNat (σ4 2 7))) hf rfl (fun hf => ?_)
          refine run_let (fun σ10 => (69, [some (vR 27), some (vR 2), some (vR 33), some (vI p3)], [], σ10)) hf (fun σ10 hf => ?_)
          refine run_seg (k := 1) (s' := (70, [some (vR 27), some (vR 2), some (vR 33), some (vI p3)], [vR 2], σ10)) rfl ?_
          refine run_callV (m := 116) (as := [vR 2]) (pc := 73) (ls := [some (vR 27), some (vR 2), some (vR 33), some (vI p3)]) (st' := []) (σ := σ10) hf rfl (fun _ h => (c_Tokens_step h).mono (by decide)) (fun σ11 hf => ?_)
          refine run_seg (k := 1) (s' := (74, [some (vR 27), some (vR 2), some (vR 33), some (vI p3)], [vI 1], σ11)) rfl ?_
          exact run_ret hf rfl
        · exact r_Table_readName_56_33 hf
      · exact r_Table_readName_56_33 hf
/-- BentPenny$Table.addCoin(II)V -/
def f_Table_addCoin (p1 : Int) (p2 : Int) (σ : xSt) : Option (xSt) :=
  xbR (f_X_isWithin (σ 27 1) 3 σ) fun r1 =>
  if r1 = 0 then (some σ)
  else (if 0 ≤ σ 27 1 ∧ σ 27 1 < 3 then (
  xlet (upS σ 29 (σ 27 1).toNat 1) fun σ2 =>
  if 0 ≤ σ2 27 1 ∧ σ2 27 1 < 3 then (
  xlet (upS σ2 30 (σ2 27 1).toNat 2) fun σ3 =>
  if 0 ≤ σ3 27 1 ∧ σ3 27 1 < 3 then (
  xlet (upS σ3 31 (σ3 27 1).toNat p2) fun σ4 =>
  if 0 ≤ w32 ((σ4 27 1) * 6) ∧ w32 ((σ4 27 1) * 6) < 18 then (
  xlet (upS σ4 32 (w32 ((σ4 27 1) * 6)).toNat p1) fun σ5 =>
  if 0 ≤ w32 ((w32 ((σ5 27 1) * 6)) + 1) ∧ w32 ((w32 ((σ5 27 1) * 6)) + 1) < 18 then (
  xlet (upS σ5 32 (w32 ((w32 ((σ5 27 1) * 6)) + 1)).toNat (w32 (p2 - p1))) fun σ6 =>
  xlet (upS σ6 27 1 (w32 ((σ6 27 1) + 1))) fun σ7 =>
  some σ7) else none) else none) else none) else none) else none)
theorem c_Table_addCoin {p1 : Int} {p2 : Int} {σ : xSt} {r : xSt} (hf : f_Table_addCoin p1 p2 σ = some r) : Call (1 + 1) 103 [vR 27, vI p1, vI p2] σ (tV r).1 (tV r).2 := by
  unfold f_Table_addCoin at hf
  refine call_of (own := 8) (rk := 0) (cd := kX8_addCoin) (ls := [some (vR 27), some (vI p1), some (vI p2)]) (rT := tV) rfl rfl rfl rfl rfl ?_
  refine run_seg (k := 3) (s' := (5, [some (vR 27), some (vI p1), some (vI p2)], [vI 3, vI (σ 27 1)], σ)) rfl ?_
  refine run_callN (w := fun a => some (vI a)) (m := 207) (as := [vI (σ 27 1), vI 3]) (pc := 8) (ls := [some (vR 27), some (vI p1), some (vI p2)]) (st' := []) (σ := σ) hf rfl (fun _ h => (c_X_isWithin h).mono (by decide)) (fun r1 hf => ?_)
  refine run_seg (k := 1) (s' := (if r1 = 0 then (81, [some (vR 27), some (vI p1), some (vI p2)], [], σ) else (11, [some (vR 27), some (vI p1), some (vI p2)], [], σ))) rfl ?_
  refine run_ite hf (fun _ hf => ?_) (fun _ hf => ?_)
  · exact run_ret hf rfl
  · refine run_seg (k := 5) (s' := (20, [some (vR 27), some (vI p1), some (vI p2)], [vI 1, vI (σ 27 1), vR 29], σ)) rfl ?_
    refine run_guard (s' := (21, [some (vR 27), some (vI p1), some (vI p2)], [], upS σ 29 (σ 27 1).toNat 1)) hf rfl (fun hf => ?_)
    refine run_let (fun σ2 => (21, [some (vR 27), some (vI p1), some (vI p2)], [], σ2)) hf (fun σ2 hf => ?_)
    refine run_seg (k := 5) (s' := (30, [some (vR 27), some (vI p1), some (vI p2)], [vI 2, vI (σ2 27 1), vR 30], σ2)) rfl ?_
    refine run_guard (s' := (31, [some (vR 27), some (vI p1), some (vI p2)], [], upS σ2 30 (σ2 27 1).toNat 2)) hf rfl (fun hf => ?_)
    refine run_let (fun σ3 => (31, [some (vR 27), some (vI p1), some (vI p2)], [], σ3)) hf (fun σ3 hf => ?_)
    refine run_seg (k := 5) (s' := (40, [some (vR 27), some (vI p1), some (vI p2)], [vI p2, vI (σ3 27 1), vR 31], σ3)) rfl ?_
    refine run_guard (s' := (41, [some (vR 27), some (vI p1), some (vI p2)], [], upS σ3 31 (σ3 27 1).toNat p2)) hf rfl (fun hf => ?_)
    refine run_let (fun σ4 => (41, [some (vR 27), some (vI p1), some (vI p2)], [], σ4)) hf (fun σ4 hf => ?_)
    refine run_seg (k := 7) (s' := (53, [some (vR 27), some (vI p1), some (vI p2)], [vI p1, vI (w32 ((σ4 27 1) * 6)), vR 32], σ4)) rfl ?_
    refine run_guard (s' := (54, [some (vR 27), some (vI p1), some (vI p2)], [], upS σ4 32 (w32 ((σ4 27 1) * 6)).toNat p1)) hf rfl (fun hf => ?_)
    refine run_let (fun σ5 => (54, [some (vR 27), some (vI p1), some (vI p2)], [], σ5)) hf (fun σ5 hf => ?_)
    refine run_seg (k := 11) (s' := (70, [some (vR 27), some (vI p1), some (vI p2)], [vI (w32 (p2 - p1)), vI (w32 ((w32 ((σ5 27 1) * 6)) + 1)), vR 32], σ5)) rfl ?_
    refine run_guard (s' := (71, [some (vR 27), some (vI p1), some (vI p2)], [], upS σ5 32 (w32 ((w32 ((σ5 27 1) * 6)) + 1)).toNat (w32 (p2 - p1)))) hf rfl (fun hf => ?_)
    refine run_let (fun σ6 => (71, [some (vR 27), some (vI p1), some (vI p2)], [], σ6)) hf (fun σ6 hf => ?_)
    refine run_seg (k := 6) (s' := (81, [some (vR 27), some (vI p1), some (vI p2)], [], upS σ6 27 1 (w32 ((σ6 27 1) + 1)))) rfl ?_
    refine run_let (fun σ7 => (81, [some (vR 27), some (vI p1), some (vI p2)], [], σ7)) hf (fun σ7 hf => ?_)
    exact run_ret hf rfl
/-- BentPenny$Tokens.isSigned(C)Z -/
def f_Tokens_isSigned (p1 : Int) (σ : xSt) : Option (Int) :=
  if σ 2 6 = 6 then (if σ 2 7 = p1 then (some 1)
  else (some 0))
  else (some 0)
theorem c_Tokens_isSigned {p1 : Int} {σ : xSt} {r : Int} (hf : f_Tokens_isSigned p1 σ = some r) : Call (0 + 1) 120 [vR 2, vI p1] σ ((tI σ) r).1 ((tI σ) r).2 := by
  unfold f_Tokens_isSigned at hf
  refine call_of (own := 9) (rk := 2) (cd := kX9_isSigned) (ls := [some (vR 2), some (vI p1)]) (rT := (tI σ)) rfl rfl rfl rfl rfl ?_
  refine run_seg (k := 4) (s' := (if σ 2 6 = 6 then (9, [some (vR 2), some (vI p1)], [], σ) else (21, [some (vR 2), some (vI p1)], [], σ))) rfl ?_
  refine run_ite hf (fun _ hf => ?_) (fun _ hf => ?_)
  · refine run_seg (k := 4) (s' := (if σ 2 7 = p1 then (17, [some (vR 2), some (vI p1)], [], σ) else (21, [some (vR 2), some (vI p1)], [], σ))) rfl ?_
    refine run_ite hf (fun _ hf => ?_) (fun _ hf => ?_)
    · refine run_seg (k := 2) (s' := (22, [some (vR 2), some (vI p1)], [vI 1], σ)) rfl ?_
      exact run_ret hf rfl
    · refine run_seg (k := 1) (s' := (22, [some (vR 2), some (vI p1)], [vI 0], σ)) rfl ?_
      exact run_ret hf rfl
  · refine run_seg (k := 1) (s' := (22, [some (vR 2), some (vI p1)], [vI 0], σ)) rfl ?_
    exact run_ret hf rfl
/-- BentPenny$Tokens.pass(C)Z -/
def f_Tokens_pass (p1 : Int) (σ : xSt) : Option (Int × xSt) :=
  xbR (f_Tokens_isSigned p1 σ) fun r1 =>
  if r1 = 0 then (xbW (f_Tokens_fail 1 σ) fun r2 σ3 =>
  some (xnb r2, σ3))
  else (xbR (f_Tokens_step σ) fun σ4 =>
  some (1, σ4))
theorem c_Tokens_pass {p1 : Int} {σ : xSt} {r : Int × xSt} (hf : f_Tokens_pass p1 σ = some r) : Call (2 + 1) 123 [vR 2, vI p1] σ (tIW r).1 (tIW r).2 := by
  unfold f_Tokens_pass at hf
  refine call_of (own := 9) (rk := 2) (cd := kX9_pass) (ls := [some (vR 2), some (vI p1)]) (rT := tIW) rfl rfl rfl rfl rfl ?_
  refine run_seg (k := 2) (s' := (2, [some (vR 2), some (vI p1)], [vI p1, vR 2], σ)) rfl ?_
  refine run_callN (w := fun a => some (vI a)) (m := 120) (as := [vR 2, vI p1]) (pc := 5) (ls := [some (vR 2), some (vI p1)]) (st' := []) (σ := σ) hf rfl (fun _ h => (c_Tokens_isSigned h).mono (by decide)) (fun r1 hf => ?_)
  refine run_seg (k := 1) (s' := (if r1 = 0 then (8, [some (vR 2), some (vI p1)], [], σ) else (14, [some (vR 2), some (vI p1)], [], σ))) rfl ?_
  refine run_ite hf (fun _ hf => ?_) (fun _ hf => ?_)
  · refine run_seg (k := 2) (s' := (10, [some (vR 2), some (vI p1)], [vI 1, vR 2], σ)) rfl ?_
    refine run_callW (w := fun a => some (vI a)) (m := 122) (as := [vR 2, vI 1]) (pc := 13) (ls := [some (vR 2), some (vI p1)]) (st' := []) (σ := σ) hf rfl (fun _ _ h => (c_Tokens_fail h).mono (by decide)) (fun r2 σ3 hf => ?_)
    exact run_ret hf rfl
  · refine run_seg (k := 1) (s' := (15, [some (vR 2), some (vI p1)], [vR 2], σ)) rfl ?_
    refine run_callV (m := 116) (as := [vR 2]) (pc := 18) (ls := [some (vR 2), some (vI p1)]) (st' := []) (σ := σ) hf rfl (fun _ h => (c_Tokens_step h).mono (by decide)) (fun σ4 hf => ?_)
    refine run_seg (k := 1) (s' := (19, [some (vR 2), some (vI p1)], [vI 1], σ4)) rfl ?_
    exact run_ret hf rfl
def f_Tokens_holdsNumber_30 (σ : xSt) : Option (Int × xSt) :=
  xbW (f_Tokens_fail 2 σ) fun r3 σ4 =>
  if r3 = 0 then (some (0, σ4))
  else (some (1, σ4))
/-- BentPenny$Tokens.holdsNumber(II)Z -/
def f_Tokens_holdsNumber (p1 : Int) (p2 : Int) (σ : xSt) : Option (Int × xSt) :=
  if σ 2 6 = 5 then (if σ 2 7 < p1 then (f_Tokens_holdsNumber_30 σ)
  else (if p2 < σ 2 7 then (f_Tokens_holdsNumber_30 σ)
  else (some (1, σ))))
  else (xbW (f_Tokens_fail 1 σ) fun r1 σ2 =>
  some (xnb r1, σ2))
theorem r_Tokens_holdsNumber_30 {g1 : Option xV} {g2 : Option xV} {σ : xSt} {r : Int × xSt} (hf : f_Tokens_holdsNumber_30 σ = some r) : Run 1 9 2 kX9_holdsNumber (30, [some (vR 2), g1, g2], [], σ) (tIW r) := by
  unfold f_Tokens_holdsNumber_30 at hf
  refine run_seg (k := 2) (s' := (32, [some (vR 2), g1, g2], [vI 2, vR 2], σ)) rfl ?_
  refine run_callW (w := fun a => some (vI a)) (m := 122) (as := [vR 2, vI 2]) (pc := 35) (ls := [some (vR 2), g1, g2]) (st' := []) (σ := σ) hf rfl (fun _ _ h => (c_Tokens_fail h).mono (by decide)) (fun r3 σ4 hf => ?_)
  refine run_seg (k := 1) (s' := (if r3 = 0 then (42, [some (vR 2), g1, g2], [], σ4) else (38, [some (vR 2), g1, g2], [], σ4))) rfl ?_
  refine run_ite hf (fun _ hf => ?_) (fun _ hf => ?_)
  · refine run_seg (k := 1) (s' := (43, [some (vR 2), g1, g2], [vI 0], σ4)) rfl ?_
    exact run_ret hf rfl
  · refine run_seg (k := 2) (s' := (43, [some (vR 2), g1, g2], [vI 1], σ4)) rfl ?_
    exact run_ret hf rfl
theorem c_Tokens_holdsNumber {p1 : Int} {p2 : Int} {σ : xSt} {r : Int × xSt} (hf : f_Tokens_holdsNumber p1 p2 σ = some r) : Call (1 + 1) 124 [vR 2, vI p1, vI p2] σ (tIW r).1 (tIW r).2 := by
  unfold f_Tokens_holdsNumber at hf
  refine call_of (own := 9) (rk := 2) (cd := kX9_holdsNumber) (ls := [some (vR 2), some (vI p1), some (vI p2)]) (rT := tIW) rfl rfl rfl rfl rfl ?_
  refine run_seg (k := 4) (s' := (if σ 2 6 = 5 then (14, [some (vR 2), some (vI p1), some (vI p2)], [], σ) else (8, [some (vR 2), some (vI p1), some (vI p2)], [], σ))) rfl ?_
  refine run_ite hf (fun _ hf => ?_) (fun _ hf => ?_)
  · refine run_seg (k := 4) (s' := (if σ 2 7 < p1 then (30, [some (vR 2), some (vI p1), some (vI p2)], [], σ) else (22, [some (vR 2), some (vI p1), some (vI p2)], [], σ))) rfl ?_
    refine run_ite hf (fun _ hf => ?_) (fun _ hf => ?_)
    · exact r_Tokens_holdsNumber_30 hf
    · refine run_seg (k := 4) (s' := (if p2 < σ 2 7 then (30, [some (vR 2), some (vI p1), some (vI p2)], [], σ) else (38, [some (vR 2), some (vI p1), some (vI p2)], [], σ))) rfl ?_
      refine run_ite hf (fun _ hf => ?_) (fun _ hf => ?_)
      · exact r_Tokens_holdsNumber_30 hf
      · refine run_seg (k := 2) (s' := (43, [some (vR 2), some (vI p1), some (vI p2)], [vI 1], σ)) rfl ?_
        exact run_ret hf rfl
  · refine run_seg (k := 2) (s' := (10, [some (vR 2), some (vI p1), some (vI p2)], [vI 1, vR 2], σ)) rfl ?_
    refine run_callW (w := fun a => some (vI a)) (m := 122) (as := [vR 2, vI 1]) (pc := 13) (ls := [some (vR 2), some (vI p1), some (vI p2)]) (st' := []) (σ := σ) hf rfl (fun _ _ h => (c_Tokens_fail h).mono (by decide)) (fun r1 σ2 hf => ?_)
    exact run_ret hf rfl
/-- BentPenny$Table.readCoin(LBentPenny$Tokens;)Z -/
def f_Table_readCoin (σ : xSt) : Option (Int × xSt) :=
  xbW (f_Table_readName 28 (σ 27 1) σ) fun r1 σ2 =>
  if r1 = 0 then (some (0, σ2))
  else (xbR (f_Tokens_is 153 σ2) fun r3 =>
  if r3 = 0 then (xbW (f_Tokens_holdsNumber 0 9 σ2) fun r4 σ5 =>
  if r4 = 0 then (some (0, σ5))
  else (xlet (σ5 2 7) fun x6 =>
  xbR (f_Tokens_step σ5) fun σ7 =>
  xbW (f_Tokens_holdsNumber (xmax 2 x6) 9 σ7) fun r8 σ9 =>
  if r8 = 0 then (some (0, σ9))
  else (xbR (f_Table_addCoin x6 (σ9 2 7) σ9) fun σ10 =>
  xbR (f_Tokens_step σ10) fun σ11 =>
  xbW (f_Tokens_pass 59 σ11) fun r12 σ13 =>
  some (xnb r12, σ13))))
  else (if σ2 27 3 = (-1) then (xlet (upS σ2 27 3 (σ2 27 1)) fun σ14 =>
  xbR (f_Tokens_step σ14) fun σ15 =>
  xbR (f_Table_addCoin 0 0 σ15) fun σ16 =>
  xbW (f_Tokens_pass 59 σ16) fun r17 σ18 =>
  some (xnb r17, σ18))
  else (xbW (f_Tokens_fail 3 σ2) fun r19 σ20 =>
  some (xnb r19, σ20))))
theorem c_Table_readCoin {σ : xSt} {r : Int × xSt} (hf : f_Table_readCoin σ = some r) : Call (3 + 1) 102 [vR 27, vR 2] σ (tIW r).1 (tIW r).2 := by
  unfold f_Table_readCoin at hf
  refine call_of (own := 8) (rk := 2) (cd := kX8_readCoin) (ls := [some (vR 27), some (vR 2), none]) (rT := tIW) rfl rfl rfl rfl rfl ?_
  refine run_seg (k := 6) (s' := (10, [some (vR 27), some (vR 2), none], [vI (σ 27 1), vR 28, vR 2, vR 27], σ)) rfl ?_
  refine run_callW (w := fun a => some (vI a)) (m := 101) (as := [vR 27, vR 2, vR 28, vI (σ 27 1)]) (pc := 13) (ls := [some (vR 27), some (vR 2), none]) (st' := []) (σ := σ) hf rfl (fun _ _ h => (c_Table_readName_28 h).mono (by decide)) (fun r1 σ2 hf => ?_)
  refine run_seg (k := 1) (s' := (if r1 = 0 then (16, [some (vR 27), some (vR 2), none], [], σ2) else (18, [some (vR 27), some (vR 2), none], [], σ2))) rfl ?_
  refine run_ite hf (fun _ hf => ?_) (fun _ hf => ?_)
  · refine run_seg (k := 1) (s' := (17, [some (vR 27), some (vR 2), none], [vI 0], σ2)) rfl ?_
    exact run_ret hf rfl
  · refine run_seg (k := 2) (s' := (21, [some (vR 27), some (vR 2), none], [vR 153, vR 2], σ2)) rfl ?_
    refine run_callN (w := fun a => some (vI a)) (m := 117) (as := [vR 2, vR 153]) (pc := 24) (ls := [some (vR 27), some (vR 2), none]) (st' := []) (σ := σ2) hf rfl (fun _ h => (c_Tokens_is_153 h).mono (by decide)) (fun r3 hf => ?_)
    refine run_seg (k := 1) (s' := (if r3 = 0 then (66, [some (vR 27), some (vR 2), none], [], σ2) else (27, [some (vR 27), some (vR 2), none], [], σ2))) rfl ?_
    refine run_ite hf (fun _ hf => ?_) (fun _ hf => ?_)
    · refine run_seg (k := 3) (s' := (70, [some (vR 27), some (vR 2), none], [vI 9, vI 0, vR 2], σ2)) rfl ?_
      refine run_callW (w := fun a => some (vI a)) (m := 124) (as := [vR 2, vI 0, vI 9]) (pc := 73) (ls := [some (vR 27), some (vR 2), none]) (st' := []) (σ := σ2) hf rfl (fun _ _ h => (c_Tokens_holdsNumber h).mono (by decide)) (fun r4 σ5 hf => ?_)
      refine run_seg (k := 1) (s' := (if r4 = 0 then (76, [some (vR 27), some (vR 2), none], [], σ5) else (78, [some (vR 27), some (vR 2), none], [], σ5))) rfl ?_
      refine run_ite hf (fun _ hf => ?_) (fun _ hf => ?_)
      · refine run_seg (k := 1) (s' := (77, [some (vR 27), some (vR 2), none], [vI 0], σ5)) rfl ?_
        exact run_ret hf rfl
      · refine run_seg (k := 3) (s' := (83, [some (vR 27), some (vR 2), some (vI (σ5 2 7))], [], σ5)) rfl ?_
        refine run_let (fun x6 => (83, [some (vR 27), some (vR 2), some (vI x6)], [], σ5)) hf (fun x6 hf => ?_)
        refine run_seg (k := 1) (s' := (84, [some (vR 27), some (vR 2), some (vI x6)], [vR 2], σ5)) rfl ?_
        refine run_callV (m := 116) (as := [vR 2]) (pc := 87) (ls := [some (vR 27), some (vR 2), some (vI x6)]) (st' := []) (σ := σ5) hf rfl (fun _ h => (c_Tokens_step h).mono (by decide)) (fun σ7 hf => ?_)
        refine run_seg (k := 5) (s' := (95, [some (vR 27), some (vR 2), some (vI x6)], [vI 9, vI (xmax 2 x6), vR 2], σ7)) rfl ?_
        refine run_callW (w := fun a => some (vI a)) (m := 124) (as := [vR 2, vI (xmax 2 x6), vI 9]) (pc := 98) (ls := [some (vR 27), some (vR 2), some (vI x6)]) (st' := []) (σ := σ7) hf rfl (fun _ _ h => (c_Tokens_holdsNumber h).mono (by decide)) (fun r8 σ9 hf => ?_)
        refine run_seg (k := 1) (s' := (if r8 = 0 then (101, [some (vR 27), some (vR 2), some (vI x6)], [], σ9) else (103, [some (vR 27), some (vR 2), some (vI x6)], [], σ9))) rfl ?_
        refine run_ite hf (fun _ hf => ?_) (fun _ hf => ?_)
        · refine run_seg (k := 1) (s' := (102, [some (vR 27), some (vR 2), some (vI x6)], [vI 0], σ9)) rfl ?_
          exact run_ret hf rfl
        · refine run_seg (k := 4) (s' := (109, [some (vR 27), some (vR 2), some (vI x6)], [vI (σ9 2 7), vI x6, vR 27], σ9)) rfl ?_
          refine run_callV (m := 103) (as := [vR 27, vI x6, vI (σ9 2 7)]) (pc := 112) (ls := [some (vR 27), some (vR 2), some (vI x6)]) (st' := []) (σ := σ9) hf rfl (fun _ h => (c_Table_addCoin h).mono (by decide)) (fun σ10 hf => ?_)
          refine run_seg (k := 1) (s' := (113, [some (vR 27), some (vR 2), some (vI x6)], [vR 2], σ10)) rfl ?_
          refine run_callV (m := 116) (as := [vR 2]) (pc := 116) (ls := [some (vR 27), some (vR 2), some (vI x6)]) (st' := []) (σ := σ10) hf rfl (fun _ h => (c_Tokens_step h).mono (by decide)) (fun σ11 hf => ?_)
          refine run_seg (k := 2) (s' := (119, [some (vR 27), some (vR 2), some (vI x6)], [vI 59, vR 2], σ11)) rfl ?_
          refine run_callW (w := fun a => some (vI a)) (m := 123) (as := [vR 2, vI 59]) (pc := 122) (ls := [some (vR 27), some (vR 2), some (vI x6)]) (st' := []) (σ := σ11) hf rfl (fun _ _ h => (c_Tokens_pass h).mono (by decide)) (fun r12 σ13 hf => ?_)
          exact run_ret hf rfl
    · refine run_seg (k := 4) (s' := (if σ2 27 3 = (-1) then (41, [some (vR 27), some (vR 2), none], [], σ2) else (35, [some (vR 27), some (vR 2), none], [], σ2))) rfl ?_
      refine run_ite hf (fun _ hf => ?_) (fun _ hf => ?_)
      · refine run_seg (k := 4) (s' := (49, [some (vR 27), some (vR 2), none], [], upS σ2 27 3 (σ2 27 1))) rfl ?_
        refine run_let (fun σ14 => (49, [some (vR 27), some (vR 2), none], [], σ14)) hf (fun σ14 hf => ?_)
        refine run_seg (k := 1) (s' := (50, [some (vR 27), some (vR 2), none], [vR 2], σ14)) rfl ?_
        refine run_callV (m := 116) (as := [vR 2]) (pc := 53) (ls := [some (vR 27), some (vR 2), none]) (st' := []) (σ := σ14) hf rfl (fun _ h => (c_Tokens_step h).mono (by decide)) (fun σ15 hf => ?_)
        refine run_seg (k := 3) (s' := (56, [some (vR 27), some (vR 2), none], [vI 0, vI 0, vR 27], σ15)) rfl ?_
        refine run_callV (m := 103) (as := [vR 27, vI 0, vI 0]) (pc := 59) (ls := [some (vR 27), some (vR 2), none]) (st' := []) (σ := σ15) hf rfl (fun _ h => (c_Table_addCoin h).mono (by decide)) (fun σ16 hf => ?_)
        refine run_seg (k := 2) (s' := (62, [some (vR 27), some (vR 2), none], [vI 59, vR 2], σ16)) rfl ?_
        refine run_callW (w := fun a => some (vI a)) (m := 123) (as := [vR 2, vI 59]) (pc := 65) (ls := [some (vR 27), some (vR 2), none]) (st' := []) (σ := σ16) hf rfl (fun _ _ h => (c_Tokens_pass h).mono (by decide)) (fun r17 σ18 hf => ?_)
        exact run_ret hf rfl
      · refine run_seg (k := 2) (s' := (37, [some (vR 27), some (vR 2), none], [vI 3, vR 2], σ2)) rfl ?_
        refine run_callW (w := fun a => some (vI a)) (m := 122) (as := [vR 2, vI 3]) (pc := 40) (ls := [some (vR 27), some (vR 2), none]) (st' := []) (σ := σ2) hf rfl (fun _ _ h => (c_Tokens_fail h).mono (by decide)) (fun r19 σ20 hf => ?_)
        exact run_ret hf rfl
/-- BentPenny$Tokens.isNumber()Z -/
def f_Tokens_isNumber (σ : xSt) : Option (Int) :=
  if σ 2 6 = 5 then (some 1)
  else (some 0)
theorem c_Tokens_isNumber {σ : xSt} {r : Int} (hf : f_Tokens_isNumber σ = some r) : Call (0 + 1) 119 [vR 2] σ ((tI σ) r).1 ((tI σ) r).2 := by
  unfold f_Tokens_isNumber at hf
  refine call_of (own := 9) (rk := 2) (cd := kX9_isNumber) (ls := [some (vR 2)]) (rT := (tI σ)) rfl rfl rfl rfl rfl ?_
  refine run_seg (k := 4) (s' := (if σ 2 6 = 5 then (8, [some (vR 2)], [], σ) else (12, [some (vR 2)], [], σ))) rfl ?_
  refine run_ite hf (fun _ hf => ?_) (fun _ hf => ?_)
  · refine run_seg (k := 2) (s' := (13, [some (vR 2)], [vI 1], σ)) rfl ?_
    exact run_ret hf rfl
  · refine run_seg (k := 1) (s' := (13, [some (vR 2)], [vI 0], σ)) rfl ?_
    exact run_ret hf rfl
def f_Table_readWheel_51 (k33 : (Int → Int → xSt → Option (Int × xSt))) (l2 : Int) (l3 : Int) (σ : xSt) : Option (Int × xSt) :=
  xbW (f_Tokens_holdsNumber 1 (w32 (9 - l3)) σ) fun r11 σ12 =>
  if r11 = 0 then (some (0, σ12))
  else (if l2 < 6 then (if 0 ≤ w32 ((w32 ((σ12 27 1) * 6)) + l2) ∧ w32 ((w32 ((σ12 27 1) * 6)) + l2) < 18 then (
  xlet (upS σ12 32 (w32 ((w32 ((σ12 27 1) * 6)) + l2)).toNat (σ12 2 7)) fun σ13 =>
  xlet (w32 (l3 + (σ13 2 7))) fun x14 =>
  xlet (w32 (l2 + 1)) fun x15 =>
  xbR (f_Tokens_step σ13) fun σ16 =>
  k33 x15 x14 σ16) else none)
  else (xbW (f_Tokens_fail 4 σ12) fun r17 σ18 =>
  some (xnb r17, σ18)))
def f_Table_readWheel_112 (l2 : Int) (l3 : Int) (σ : xSt) : Option (Int × xSt) :=
  if 0 ≤ σ 27 1 ∧ σ 27 1 < 3 then (
  xlet (upS σ 29 (σ 27 1).toNat 0) fun σ5 =>
  if 0 ≤ σ5 27 1 ∧ σ5 27 1 < 3 then (
  xlet (upS σ5 30 (σ5 27 1).toNat l2) fun σ6 =>
  if 0 ≤ σ6 27 1 ∧ σ6 27 1 < 3 then (
  xlet (upS σ6 31 (σ6 27 1).toNat l3) fun σ7 =>
  xlet (upS σ7 27 1 (w32 ((σ7 27 1) + 1))) fun σ8 =>
  xbW (f_Tokens_pass 59 σ8) fun r9 σ10 =>
  some (xnb r9, σ10)) else none) else none) else none
def f_Table_readWheel_33 : Nat → Int → Int → xSt → Option (Int × xSt)
  | 0, _, _, _ => none
  | n + 1, l2, l3, σ =>
    if 6 < l2 then (f_Table_readWheel_112 l2 l3 σ)
    else (if l2 < 2 then (f_Table_readWheel_51 (fun z0 z1 sz => f_Table_readWheel_33 n z0 z1 sz) l2 l3 σ)
    else (xbR (f_Tokens_isNumber σ) fun r4 =>
    if r4 = 0 then (f_Table_readWheel_112 l2 l3 σ)
    else (f_Table_readWheel_51 (fun z0 z1 sz => f_Table_readWheel_33 n z0 z1 sz) l2 l3 σ)))
/-- BentPenny$Table.readWheel(LBentPenny$Tokens;)Z -/
def f_Table_readWheel (σ : xSt) : Option (Int × xSt) :=
  xbW (f_Table_readName 28 (σ 27 1) σ) fun r1 σ2 =>
  if r1 = 0 then (some (0, σ2))
  else (xbR (f_X_isWithin (σ2 27 1) 3 σ2) fun r3 =>
  if r3 = 0 then (some (0, σ2))
  else (f_Table_readWheel_33 1000000 0 0 σ2))
theorem r_Table_readWheel_51 {k33 : (Int → Int → xSt → Option (Int × xSt))} (hk33 : ∀ {l2 : Int} {l3 : Int} {σ : xSt} {r : Int × xSt}, k33 l2 l3 σ = some r → Run 3 8 2 kX8_readWheel (33, [some (vR 27), some (vR 2), some (vI l2), some (vI l3)], [], σ) (tIW r)) {l2 : Int} {l3 : Int} {σ : xSt} {r : Int × xSt} (hf : f_Table_readWheel_51 k33 l2 l3 σ = some r) : Run 3 8 2 kX8_readWheel (51, [some (vR 27), some (vR 2), some (vI l2), some (vI l3)], [], σ) (tIW r) := by
  unfold f_Table_readWheel_51 at hf
  refine run_seg (k := 5) (s' := (57, [some (vR 27), some (vR 2), some (vI l2), some (vI l3)], [vI (w32 (9 - l3)), vI 1, vR 2], σ)) rfl ?_
  refine run_callW (w := fun a => some (vI a)) (m := 124) (as := [vR 2, vI 1, vI (w32 (9 - l3))]) (pc := 60) (ls := [some (vR 27), some (vR 2), some (vI l2), some (vI l3)]) (st' := []) (σ := σ) hf rfl (fun _ _ h => (c_Tokens_holdsNumber h).mono (by decide)) (fun r11 σ12 hf => ?_)
  refine run_seg (k := 1) (s' := (if r11 = 0 then (63, [some (vR 27), some (vR 2), some (vI l2), some (vI l3)], [], σ12) else (65, [some (vR 27), some (vR 2), some (vI l2), some (vI l3)], [], σ12))) rfl ?_
  refine run_ite hf (fun _ hf => ?_) (fun _ hf => ?_)
  · refine run_seg (k := 1) (s' := (64, [some (vR 27), some (vR 2), some (vI l2), some (vI l3)], [vI 0], σ12)) rfl ?_
    exact run_ret hf rfl
  · refine run_seg (k := 3) (s' := (if l2 < 6 then (77, [some (vR 27), some (vR 2), some (vI l2), some (vI l3)], [], σ12) else (71, [some (vR 27), some (vR 2), some (vI l2), some (vI l3)], [], σ12))) rfl ?_
    refine run_ite hf (fun _ hf => ?_) (fun _ hf => ?_)
    · refine run_seg (k := 10) (s' := (94, [some (vR 27), some (vR 2), some (vI l2), some (vI l3)], [vI (σ12 2 7), vI (w32 ((w32 ((σ12 27 1) * 6)) + l2)), vR 32], σ12)) rfl ?_
      refine run_guard (s' := (95, [some (vR 27), some (vR 2), some (vI l2), some (vI l3)], [], upS σ12 32 (w32 ((w32 ((σ12 27 1) * 6)) + l2)).toNat (σ12 2 7))) hf rfl (fun hf => ?_)
      refine run_let (fun σ13 => (95, [some (vR 27), some (vR 2), some (vI l2), some (vI l3)], [], σ13)) hf (fun σ13 hf => ?_)
      refine run_seg (k := 5) (s' := (102, [some (vR 27), some (vR 2), some (vI l2), some (vI (w32 (l3 + (σ13 2 7))))], [], σ13)) rfl ?_
      refine run_let (fun x14 => (102, [some (vR 27), some (vR 2), some (vI l2), some (vI x14)], [], σ13)) hf (fun x14 hf => ?_)
      refine run_seg (k := 1) (s' := (105, [some (vR 27), some (vR 2), some (vI (w32 (l2 + 1))), some (vI x14)], [], σ13)) rfl ?_
      refine run_let (fun x15 => (105, [some (vR 27), some (vR 2), some (vI x15), some (vI x14)], [], σ13)) hf (fun x15 hf => ?_)
      refine run_seg (k := 1) (s' := (106, [some (vR 27), some (vR 2), some (vI x15), some (vI x14)], [vR 2], σ13)) rfl ?_
      refine run_callV (m := 116) (as := [vR 2]) (pc := 109) (ls := [some (vR 27), some (vR 2), some (vI x15), some (vI x14)]) (st' := []) (σ := σ13) hf rfl (fun _ h => (c_Tokens_step h).mono (by decide)) (fun σ16 hf => ?_)
      refine run_seg (k := 1) (s' := (33, [some (vR 27), some (vR 2), some (vI x15), some (vI x14)], [], σ16)) rfl ?_
      exact hk33 hf
    · refine run_seg (k := 2) (s' := (73, [some (vR 27), some (vR 2), some (vI l2), some (vI l3)], [vI 4, vR 2], σ12)) rfl ?_
      refine run_callW (w := fun a => some (vI a)) (m := 122) (as := [vR 2, vI 4]) (pc := 76) (ls := [some (vR 27), some (vR 2), some (vI l2), some (vI l3)]) (st' := []) (σ := σ12) hf rfl (fun _ _ h => (c_Tokens_fail h).mono (by decide)) (fun r17 σ18 hf => ?_)
      exact run_ret hf rfl
theorem r_Table_readWheel_112 {l2 : Int} {l3 : Int} {σ : xSt} {r : Int × xSt} (hf : f_Table_readWheel_112 l2 l3 σ = some r) : Run 3 8 2 kX8_readWheel (112, [some (vR 27), some (vR 2), some (vI l2), some (vI l3)], [], σ) (tIW r) := by
  unfold f_Table_readWheel_112 at hf
  refine run_seg (k := 5) (s' := (121, [some (vR 27), some (vR 2), some (vI l2), some (vI l3)], [vI 0, vI (σ 27 1), vR 29], σ)) rfl ?_
  refine run_guard (s' := (122, [some (vR 27), some (vR 2), some (vI l2), some (vI l3)], [], upS σ 29 (σ 27 1).toNat 0)) hf rfl (fun hf => ?_)
  refine run_let (fun σ5 => (122, [some (vR 27), some (vR 2), some (vI l2), some (vI l3)], [], σ5)) hf (fun σ5 hf => ?_)
  refine run_seg (k := 5) (s' := (131, [some (vR 27), some (vR 2), some (vI l2), some (vI l3)], [vI l2, vI (σ5 27 1), vR 30], σ5)) rfl ?_
  refine run_guard (s' := (132, [some (vR 27), some (vR 2), some (vI l2), some (vI l3)], [], upS σ5 30 (σ5 27 1).toNat l2)) hf rfl (fun hf => ?_)
  refine run_let (fun σ6 => (132, [some (vR 27), some (vR 2), some (vI l2), some (vI l3)], [], σ6)) hf (fun σ6 hf => ?_)
  refine run_seg (k := 5) (s' := (141, [some (vR 27), some (vR 2), some (vI l2), some (vI l3)], [vI l3, vI (σ6 27 1), vR 31], σ6)) rfl ?_
  refine run_guard (s' := (142, [some (vR 27), some (vR 2), some (vI l2), some (vI l3)], [], upS σ6 31 (σ6 27 1).toNat l3)) hf rfl (fun hf => ?_)
  refine run_let (fun σ7 => (142, [some (vR 27), some (vR 2), some (vI l2), some (vI l3)], [], σ7)) hf (fun σ7 hf => ?_)
  refine run_seg (k := 6) (s' := (152, [some (vR 27), some (vR 2), some (vI l2), some (vI l3)], [], upS σ7 27 1 (w32 ((σ7 27 1) + 1)))) rfl ?_
  refine run_let (fun σ8 => (152, [some (vR 27), some (vR 2), some (vI l2), some (vI l3)], [], σ8)) hf (fun σ8 hf => ?_)
  refine run_seg (k := 2) (s' := (155, [some (vR 27), some (vR 2), some (vI l2), some (vI l3)], [vI 59, vR 2], σ8)) rfl ?_
  refine run_callW (w := fun a => some (vI a)) (m := 123) (as := [vR 2, vI 59]) (pc := 158) (ls := [some (vR 27), some (vR 2), some (vI l2), some (vI l3)]) (st' := []) (σ := σ8) hf rfl (fun _ _ h => (c_Tokens_pass h).mono (by decide)) (fun r9 σ10 hf => ?_)
  exact run_ret hf rfl
theorem r_Table_readWheel_33 : ∀ (n : Nat) {l2 : Int} {l3 : Int} {σ : xSt} {r : Int × xSt}, f_Table_readWheel_33 n l2 l3 σ = some r → Run 3 8 2 kX8_readWheel (33, [some (vR 27), some (vR 2), some (vI l2), some (vI l3)], [], σ) (tIW r) := by
  intro n
  induction n with
  | zero =>
    intro _ _ _ _ h
    exact nomatch (show (none : Option (Int × xSt)) = some _ from h)
  | succ n ih =>
    intro l2 l3 σ r hf
    unfold f_Table_readWheel_33 at hf
    refine run_seg (k := 3) (s' := (if 6 < l2 then (112, [some (vR 27), some (vR 2), some (vI l2), some (vI l3)], [], σ) else (39, [some (vR 27), some (vR 2), some (vI l2), some (vI l3)], [], σ))) rfl ?_
    refine run_ite hf (fun _ hf => ?_) (fun _ hf => ?_)
    · exact r_Table_readWheel_112 hf
    · refine run_seg (k := 3) (s' := (if l2 < 2 then (51, [some (vR 27), some (vR 2), some (vI l2), some (vI l3)], [], σ) else (44, [some (vR 27), some (vR 2), some (vI l2), some (vI l3)], [], σ))) rfl ?_
      refine run_ite hf (fun _ hf => ?_) (fun _ hf => ?_)
      · exact r_Table_readWheel_51 (fun h => ih h) hf
      · refine run_seg (k := 1) (s' := (45, [some (vR 27), some (vR 2), some (vI l2), some (vI l3)], [vR 2], σ)) rfl ?_
        refine run_callN (w := fun a => some (vI a)) (m := 119) (as := [vR 2]) (pc := 48) (ls := [some (vR 27), some (vR 2), some (vI l2), some (vI l3)]) (st' := []) (σ := σ) hf rfl (fun _ h => (c_Tokens_isNumber h).mono (by decide)) (fun r4 hf => ?_)
        refine run_seg (k := 1) (s' := (if r4 = 0 then (112, [some (vR 27), some (vR 2), some (vI l2), some (vI l3)], [], σ) else (51, [some (vR 27), some (vR 2), some (vI l2), some (vI l3)], [], σ))) rfl ?_
        refine run_ite hf (fun _ hf => ?_) (fun _ hf => ?_)
        · exact r_Table_readWheel_112 hf
        · exact r_Table_readWheel_51 (fun h => ih h) hf
theorem c_Table_readWheel {σ : xSt} {r : Int × xSt} (hf : f_Table_readWheel σ = some r) : Call (3 + 1) 104 [vR 27, vR 2] σ (tIW r).1 (tIW r).2 := by
  unfold f_Table_readWheel at hf
  refine call_of (own := 8) (rk := 2) (cd := kX8_readWheel) (ls := [some (vR 27), some (vR 2), none, none]) (rT := tIW) rfl rfl rfl rfl rfl ?_
  refine run_seg (k := 6) (s' := (10, [some (vR 27), some (vR 2), none, none], [vI (σ 27 1), vR 28, vR 2, vR 27], σ)) rfl ?_
  refine run_callW (w := fun a => some (vI a)) (m := 101) (as := [vR 27, vR 2, vR 28, vI (σ 27 1)]) (pc := 13) (ls := [some (vR 27), some (vR 2), none, none]) (st' := []) (σ := σ) hf rfl (fun _ _ h => (c_Table_readName_28 h).mono (by decide)) (fun r1 σ2 hf => ?_)
  refine run_seg (k := 1) (s' := (if r1 = 0 then (27, [some (vR 27), some (vR 2), none, none], [], σ2) else (16, [some (vR 27), some (vR 2), none, none], [], σ2))) rfl ?_
  refine run_ite hf (fun _ hf => ?_) (fun _ hf => ?_)
  · refine run_seg (k := 1) (s' := (28, [some (vR 27), some (vR 2), none, none], [vI 0], σ2)) rfl ?_
    exact run_ret hf rfl
  · refine run_seg (k := 3) (s' := (21, [some (vR 27), some (vR 2), none, none], [vI 3, vI (σ2 27 1)], σ2)) rfl ?_
    refine run_callN (w := fun a => some (vI a)) (m := 207) (as := [vI (σ2 27 1), vI 3]) (pc := 24) (ls := [some (vR 27), some (vR 2), none, none]) (st' := []) (σ := σ2) hf rfl (fun _ h => (c_X_isWithin h).mono (by decide)) (fun r3 hf => ?_)
    refine run_seg (k := 1) (s' := (if r3 = 0 then (27, [some (vR 27), some (vR 2), none, none], [], σ2) else (29, [some (vR 27), some (vR 2), none, none], [], σ2))) rfl ?_
    refine run_ite hf (fun _ hf => ?_) (fun _ hf => ?_)
    · refine run_seg (k := 1) (s' := (28, [some (vR 27), some (vR 2), none, none], [vI 0], σ2)) rfl ?_
      exact run_ret hf rfl
    · refine run_seg (k := 4) (s' := (33, [some (vR 27), some (vR 2), some (vI 0), some (vI 0)], [], σ2)) rfl ?_
      exact r_Table_readWheel_33 1000000 hf
def f_Table_readEnd_123 (σ : xSt) : Option (Int × xSt) :=
  xlet (upS σ 27 2 (w32 ((σ 27 2) + 1))) fun σ16 =>
  xbW (f_Tokens_pass 59 σ16) fun r17 σ18 =>
  some (xnb r17, σ18)
/-- BentPenny$Table.readEnd(LBentPenny$Tokens;)Z -/
def f_Table_readEnd (σ : xSt) : Option (Int × xSt) :=
  xbW (f_Table_readName 33 (σ 27 2) σ) fun r1 σ2 =>
  if r1 = 0 then (some (0, σ2))
  else (xbR (f_X_isWithin (σ2 27 2) 6 σ2) fun r3 =>
  if r3 = 0 then (some (0, σ2))
  else (if 0 ≤ σ2 27 2 ∧ σ2 27 2 < 6 then (
  xlet (upS σ2 34 (σ2 27 2).toNat 0) fun σ4 =>
  if 0 ≤ σ4 27 2 ∧ σ4 27 2 < 6 then (
  xlet (upS σ4 35 (σ4 27 2).toNat 0) fun σ5 =>
  xbR (f_Tokens_isSigned 59 σ5) fun r6 =>
  if r6 = 0 then (xbW (f_Tokens_holdsNumber 0 20 σ5) fun r7 σ8 =>
  if r7 = 0 then (some (0, σ8))
  else (xlet (σ8 2 7) fun x9 =>
  xbR (f_Tokens_step σ8) fun σ10 =>
  xbW (f_Tokens_holdsNumber (xmax 1 x9) 20 σ10) fun r11 σ12 =>
  if r11 = 0 then (some (0, σ12))
  else (if 0 ≤ σ12 27 2 ∧ σ12 27 2 < 6 then (
  xlet (upS σ12 34 (σ12 27 2).toNat x9) fun σ13 =>
  if 0 ≤ σ13 27 2 ∧ σ13 27 2 < 6 then (
  xlet (upS σ13 35 (σ13 27 2).toNat (σ13 2 7)) fun σ14 =>
  xbR (f_Tokens_step σ14) fun σ15 =>
  f_Table_readEnd_123 σ15) else none) else none)))
  else (f_Table_readEnd_123 σ5)) else none) else none))
theorem r_Table_readEnd_123 {g2 : Option xV} {σ : xSt} {r : Int × xSt} (hf : f_Table_readEnd_123 σ = some r) : Run 3 8 2 kX8_readEnd (123, [some (vR 27), some (vR 2), g2], [], σ) (tIW r) := by
  unfold f_Table_readEnd_123 at hf
  refine run_seg (k := 6) (s' := (133, [some (vR 27), some (vR 2), g2], [], upS σ 27 2 (w32 ((σ 27 2) + 1)))) rfl ?_
  refine run_let (fun σ16 => (133, [some (vR 27), some (vR 2), g2], [], σ16)) hf (fun σ16 hf => ?_)
  refine run_seg (k := 2) (s' := (136, [some (vR 27), some (vR 2), g2], [vI 59, vR 2], σ16)) rfl ?_
  refine run_callW (w := fun a => some (vI a)) (m := 123) (as := [vR 2, vI 59]) (pc := 139) (ls := [some (vR 27), some (vR 2), g2]) (st' := []) (σ := σ16) hf rfl (fun _ _ h => (c_Tokens_pass h).mono (by decide)) (fun r17 σ18 hf => ?_)
  exact run_ret hf rfl
theorem c_Table_readEnd {σ : xSt} {r : Int × xSt} (hf : f_Table_readEnd σ = some r) : Call (3 + 1) 105 [vR 27, vR 2] σ (tIW r).1 (tIW r).2 := by
  unfold f_Table_readEnd at hf
  refine call_of (own := 8) (rk := 2) (cd := kX8_readEnd) (ls := [some (vR 27), some (vR 2), none]) (rT := tIW) rfl rfl rfl rfl rfl ?_
  refine run_seg (k := 6) (s' := (10, [some (vR 27), some (vR 2), none], [vI (σ 27 2), vR 33, vR 2, vR 27], σ)) rfl ?_
  refine run_callW (w := fun a => some (vI a)) (m := 101) (as := [vR 27, vR 2, vR 33, vI (σ 27 2)]) (pc := 13) (ls := [some (vR 27), some (vR 2), none]) (st' := []) (σ := σ) hf rfl (fun _ _ h => (c_Table_readName_33 h).mono (by decide)) (fun r1 σ2 hf => ?_)
  refine run_seg (k := 1) (s' := (if r1 = 0 then (28, [some (vR 27), some (vR 2), none], [], σ2) else (16, [some (vR 27), some (vR 2), none], [], σ2))) rfl ?_
  refine run_ite hf (fun _ hf => ?_) (fun _ hf => ?_)
  · refine run_seg (k := 1) (s' := (29, [some (vR 27), some (vR 2), none], [vI 0], σ2)) rfl ?_
    exact run_ret hf rfl
  · refine run_seg (k := 3) (s' := (22, [some (vR 27), some (vR 2), none], [vI 6, vI (σ2 27 2)], σ2)) rfl ?_
    refine run_callN (w := fun a => some (vI a)) (m := 207) (as := [vI (σ2 27 2), vI 6]) (pc := 25) (ls := [some (vR 27), some (vR 2), none]) (st' := []) (σ := σ2) hf rfl (fun _ h => (c_X_isWithin h).mono (by decide)) (fun r3 hf => ?_)
    refine run_seg (k := 1) (s' := (if r3 = 0 then (28, [some (vR 27), some (vR 2), none], [], σ2) else (30, [some (vR 27), some (vR 2), none], [], σ2))) rfl ?_
    refine run_ite hf (fun _ hf => ?_) (fun _ hf => ?_)
    · refine run_seg (k := 1) (s' := (29, [some (vR 27), some (vR 2), none], [vI 0], σ2)) rfl ?_
      exact run_ret hf rfl
    · refine run_seg (k := 5) (s' := (39, [some (vR 27), some (vR 2), none], [vI 0, vI (σ2 27 2), vR 34], σ2)) rfl ?_
      refine run_guard (s' := (40, [some (vR 27), some (vR 2), none], [], upS σ2 34 (σ2 27 2).toNat 0)) hf rfl (fun hf => ?_)
      refine run_let (fun σ4 => (40, [some (vR 27), some (vR 2), none], [], σ4)) hf (fun σ4 hf => ?_)
      refine run_seg (k := 5) (s' := (49, [some (vR 27), some (vR 2), none], [vI 0, vI (σ4 27 2), vR 35], σ4)) rfl ?_
      refine run_guard (s' := (50, [some (vR 27), some (vR 2), none], [], upS σ4 35 (σ4 27 2).toNat 0)) hf rfl (fun hf => ?_)
      refine run_let (fun σ5 => (50, [some (vR 27), some (vR 2), none], [], σ5)) hf (fun σ5 hf => ?_)
      refine run_seg (k := 2) (s' := (53, [some (vR 27), some (vR 2), none], [vI 59, vR 2], σ5)) rfl ?_
      refine run_callN (w := fun a => some (vI a)) (m := 120) (as := [vR 2, vI 59]) (pc := 56) (ls := [some (vR 27), some (vR 2), none]) (st' := []) (σ := σ5) hf rfl (fun _ h => (c_Tokens_isSigned h).mono (by decide)) (fun r6 hf => ?_)
      refine run_seg (k := 1) (s' := (if r6 = 0 then (59, [some (vR 27), some (vR 2), none], [], σ5) else (123, [some (vR 27), some (vR 2), none], [], σ5))) rfl ?_
      refine run_ite hf (fun _ hf => ?_) (fun _ hf => ?_)
      · refine run_seg (k := 3) (s' := (63, [some (vR 27), some (vR 2), none], [vI 20, vI 0, vR 2], σ5)) rfl ?_
        refine run_callW (w := fun a => some (vI a)) (m := 124) (as := [vR 2, vI 0, vI 20]) (pc := 66) (ls := [some (vR 27), some (vR 2), none]) (st' := []) (σ := σ5) hf rfl (fun _ _ h => (c_Tokens_holdsNumber h).mono (by decide)) (fun r7 σ8 hf => ?_)
        refine run_seg (k := 1) (s' := (if r7 = 0 then (69, [some (vR 27), some (vR 2), none], [], σ8) else (71, [some (vR 27), some (vR 2), none], [], σ8))) rfl ?_
        refine run_ite hf (fun _ hf => ?_) (fun _ hf => ?_)
        · refine run_seg (k := 1) (s' := (70, [some (vR 27), some (vR 2), none], [vI 0], σ8)) rfl ?_
          exact run_ret hf rfl
        · refine run_seg (k := 3) (s' := (76, [some (vR 27), some (vR 2), some (vI (σ8 2 7))], [], σ8)) rfl ?_
          refine run_let (fun x9 => (76, [some (vR 27), some (vR 2), some (vI x9)], [], σ8)) hf (fun x9 hf => ?_)
          refine run_seg (k := 1) (s' := (77, [some (vR 27), some (vR 2), some (vI x9)], [vR 2], σ8)) rfl ?_
          refine run_callV (m := 116) (as := [vR 2]) (pc := 80) (ls := [some (vR 27), some (vR 2), some (vI x9)]) (st' := []) (σ := σ8) hf rfl (fun _ h => (c_Tokens_step h).mono (by decide)) (fun σ10 hf => ?_)
          refine run_seg (k := 5) (s' := (88, [some (vR 27), some (vR 2), some (vI x9)], [vI 20, vI (xmax 1 x9), vR 2], σ10)) rfl ?_
          refine run_callW (w := fun a => some (vI a)) (m := 124) (as := [vR 2, vI (xmax 1 x9), vI 20]) (pc := 91) (ls := [some (vR 27), some (vR 2), some (vI x9)]) (st' := []) (σ := σ10) hf rfl (fun _ _ h => (c_Tokens_holdsNumber h).mono (by decide)) (fun r11 σ12 hf => ?_)
          refine run_seg (k := 1) (s' := (if r11 = 0 then (94, [some (vR 27), some (vR 2), some (vI x9)], [], σ12) else (96, [some (vR 27), some (vR 2), some (vI x9)], [], σ12))) rfl ?_
          refine run_ite hf (fun _ hf => ?_) (fun _ hf => ?_)
          · refine run_seg (k := 1) (s' := (95, [some (vR 27), some (vR 2), some (vI x9)], [vI 0], σ12)) rfl ?_
            exact run_ret hf rfl
          · refine run_seg (k := 5) (s' := (105, [some (vR 27), some (vR 2), some (vI x9)], [vI x9, vI (σ12 27 2), vR 34], σ12)) rfl ?_
            refine run_guard (s' := (106, [some (vR 27), some (vR 2), some (vI x9)], [], upS σ12 34 (σ12 27 2).toNat x9)) hf rfl (fun hf => ?_)
            refine run_let (fun σ13 => (106, [some (vR 27), some (vR 2), some (vI x9)], [], σ13)) hf (fun σ13 hf => ?_)
            refine run_seg (k := 6) (s' := (118, [some (vR 27), some (vR 2), some (vI x9)], [vI (σ13 2 7), vI (σ13 27 2), vR 35], σ13)) rfl ?_
            refine run_guard (s' := (119, [some (vR 27), some (vR 2), some (vI x9)], [], upS σ13 35 (σ13 27 2).toNat (σ13 2 7))) hf rfl (fun hf => ?_)
            refine run_let (fun σ14 => (119, [some (vR 27), some (vR 2), some (vI x9)], [], σ14)) hf (fun σ14 hf => ?_)
            refine run_seg (k := 1) (s' := (120, [some (vR 27), some (vR 2), some (vI x9)], [vR 2], σ14)) rfl ?_
            refine run_callV (m := 116) (as := [vR 2]) (pc := 123) (ls := [some (vR 27), some (vR 2), some (vI x9)]) (st' := []) (σ := σ14) hf rfl (fun _ h => (c_Tokens_step h).mono (by decide)) (fun σ15 hf => ?_)
            exact r_Table_readEnd_123 hf
      · exact r_Table_readEnd_123 hf
/-- BentPenny$Table.readLine(LBentPenny$Tokens;)Z -/
def f_Table_readLine (σ : xSt) : Option (Int × xSt) :=
  xbR (f_Tokens_is 150 σ) fun r1 =>
  if r1 = 0 then (xbR (f_Tokens_is 151 σ) fun r2 =>
  if r2 = 0 then (xbR (f_Tokens_is 152 σ) fun r3 =>
  if r3 = 0 then (xbW (f_Tokens_fail 1 σ) fun r4 σ5 =>
  some (xnb r4, σ5))
  else (xbW (f_Table_readEnd σ) fun r6 σ7 =>
  some (xnb r6, σ7)))
  else (xbW (f_Table_readWheel σ) fun r8 σ9 =>
  some (xnb r8, σ9)))
  else (xbW (f_Table_readCoin σ) fun r10 σ11 =>
  some (xnb r10, σ11))
theorem c_Table_readLine {σ : xSt} {r : Int × xSt} (hf : f_Table_readLine σ = some r) : Call (4 + 1) 100 [vR 27, vR 2] σ (tIW r).1 (tIW r).2 := by
  unfold f_Table_readLine at hf
  refine call_of (own := 8) (rk := 2) (cd := kX8_readLine) (ls := [some (vR 27), some (vR 2)]) (rT := tIW) rfl rfl rfl rfl rfl ?_
  refine run_seg (k := 2) (s' := (3, [some (vR 27), some (vR 2)], [vR 150, vR 2], σ)) rfl ?_
  refine run_callN (w := fun a => some (vI a)) (m := 117) (as := [vR 2, vR 150]) (pc := 6) (ls := [some (vR 27), some (vR 2)]) (st' := []) (σ := σ) hf rfl (fun _ h => (c_Tokens_is_150 h).mono (by decide)) (fun r1 hf => ?_)
  refine run_seg (k := 1) (s' := (if r1 = 0 then (15, [some (vR 27), some (vR 2)], [], σ) else (9, [some (vR 27), some (vR 2)], [], σ))) rfl ?_
  refine run_ite hf (fun _ hf => ?_) (fun _ hf => ?_)
  · refine run_seg (k := 2) (s' := (18, [some (vR 27), some (vR 2)], [vR 151, vR 2], σ)) rfl ?_
    refine run_callN (w := fun a => some (vI a)) (m := 117) (as := [vR 2, vR 151]) (pc := 21) (ls := [some (vR 27), some (vR 2)]) (st' := []) (σ := σ) hf rfl (fun _ h => (c_Tokens_is_151 h).mono (by decide)) (fun r2 hf => ?_)
    refine run_seg (k := 1) (s' := (if r2 = 0 then (30, [some (vR 27), some (vR 2)], [], σ) else (24, [some (vR 27), some (vR 2)], [], σ))) rfl ?_
    refine run_ite hf (fun _ hf => ?_) (fun _ hf => ?_)
    · refine run_seg (k := 2) (s' := (33, [some (vR 27), some (vR 2)], [vR 152, vR 2], σ)) rfl ?_
      refine run_callN (w := fun a => some (vI a)) (m := 117) (as := [vR 2, vR 152]) (pc := 36) (ls := [some (vR 27), some (vR 2)]) (st' := []) (σ := σ) hf rfl (fun _ h => (c_Tokens_is_152 h).mono (by decide)) (fun r3 hf => ?_)
      refine run_seg (k := 1) (s' := (if r3 = 0 then (45, [some (vR 27), some (vR 2)], [], σ) else (39, [some (vR 27), some (vR 2)], [], σ))) rfl ?_
      refine run_ite hf (fun _ hf => ?_) (fun _ hf => ?_)
      · refine run_seg (k := 2) (s' := (47, [some (vR 27), some (vR 2)], [vI 1, vR 2], σ)) rfl ?_
        refine run_callW (w := fun a => some (vI a)) (m := 122) (as := [vR 2, vI 1]) (pc := 50) (ls := [some (vR 27), some (vR 2)]) (st' := []) (σ := σ) hf rfl (fun _ _ h => (c_Tokens_fail h).mono (by decide)) (fun r4 σ5 hf => ?_)
        exact run_ret hf rfl
      · refine run_seg (k := 2) (s' := (41, [some (vR 27), some (vR 2)], [vR 2, vR 27], σ)) rfl ?_
        refine run_callW (w := fun a => some (vI a)) (m := 105) (as := [vR 27, vR 2]) (pc := 44) (ls := [some (vR 27), some (vR 2)]) (st' := []) (σ := σ) hf rfl (fun _ _ h => (c_Table_readEnd h).mono (by decide)) (fun r6 σ7 hf => ?_)
        exact run_ret hf rfl
    · refine run_seg (k := 2) (s' := (26, [some (vR 27), some (vR 2)], [vR 2, vR 27], σ)) rfl ?_
      refine run_callW (w := fun a => some (vI a)) (m := 104) (as := [vR 27, vR 2]) (pc := 29) (ls := [some (vR 27), some (vR 2)]) (st' := []) (σ := σ) hf rfl (fun _ _ h => (c_Table_readWheel h).mono (by decide)) (fun r8 σ9 hf => ?_)
      exact run_ret hf rfl
  · refine run_seg (k := 2) (s' := (11, [some (vR 27), some (vR 2)], [vR 2, vR 27], σ)) rfl ?_
    refine run_callW (w := fun a => some (vI a)) (m := 102) (as := [vR 27, vR 2]) (pc := 14) (ls := [some (vR 27), some (vR 2)]) (st' := []) (σ := σ) hf rfl (fun _ _ h => (c_Table_readCoin h).mono (by decide)) (fun r10 σ11 hf => ?_)
    exact run_ret hf rfl
/-- BentPenny$Tokens.isDone()Z -/
def f_Tokens_isDone (σ : xSt) : Option (Int × xSt) :=
  if σ 2 6 = 0 then (some (1, σ))
  else (xbW (f_Tokens_fail 1 σ) fun r1 σ2 =>
  if r1 = 0 then (some (0, σ2))
  else (some (1, σ2)))
theorem c_Tokens_isDone {σ : xSt} {r : Int × xSt} (hf : f_Tokens_isDone σ = some r) : Call (1 + 1) 125 [vR 2] σ (tIW r).1 (tIW r).2 := by
  unfold f_Tokens_isDone at hf
  refine call_of (own := 9) (rk := 2) (cd := kX9_isDone) (ls := [some (vR 2)]) (rT := tIW) rfl rfl rfl rfl rfl ?_
  refine run_seg (k := 3) (s' := (if σ 2 6 = 0 then (15, [some (vR 2)], [], σ) else (7, [some (vR 2)], [], σ))) rfl ?_
  refine run_ite hf (fun _ hf => ?_) (fun _ hf => ?_)
  · refine run_seg (k := 2) (s' := (20, [some (vR 2)], [vI 1], σ)) rfl ?_
    exact run_ret hf rfl
  · refine run_seg (k := 2) (s' := (9, [some (vR 2)], [vI 1, vR 2], σ)) rfl ?_
    refine run_callW (w := fun a => some (vI a)) (m := 122) (as := [vR 2, vI 1]) (pc := 12) (ls := [some (vR 2)]) (st' := []) (σ := σ) hf rfl (fun _ _ h => (c_Tokens_fail h).mono (by decide)) (fun r1 σ2 hf => ?_)
    refine run_seg (k := 1) (s' := (if r1 = 0 then (19, [some (vR 2)], [], σ2) else (15, [some (vR 2)], [], σ2))) rfl ?_
    refine run_ite hf (fun _ hf => ?_) (fun _ hf => ?_)
    · refine run_seg (k := 1) (s' := (20, [some (vR 2)], [vI 0], σ2)) rfl ?_
      exact run_ret hf rfl
    · refine run_seg (k := 2) (s' := (20, [some (vR 2)], [vI 1], σ2)) rfl ?_
      exact run_ret hf rfl
def f_Table_read_47 (σ : xSt) : Option (Int × xSt) :=
  xbW (f_Tokens_isDone σ) fun r8 σ9 =>
  some (xnb r8, σ9)
def f_Table_read_17 : Nat → Int → xSt → Option (Int × xSt)
  | 0, _, _ => none
  | n + 1, l2, σ =>
    if l2 < 500 then (xbR (f_Tokens_isOut σ) fun r4 =>
    if r4 = 0 then (xbW (f_Table_readLine σ) fun r5 σ6 =>
    if r5 = 0 then (some (0, σ6))
    else (xlet (w32 (l2 + 1)) fun x7 =>
    f_Table_read_17 n x7 σ6))
    else (f_Table_read_47 σ))
    else (f_Table_read_47 σ)
/-- BentPenny$Table.read(LBentPenny$Tokens;)Z -/
def f_Table_read (σ : xSt) : Option (Int × xSt) :=
  xlet (upS σ 27 1 0) fun σ1 =>
  xlet (upS σ1 27 2 0) fun σ2 =>
  xlet (upS σ2 27 3 (-1)) fun σ3 =>
  f_Table_read_17 1000000 0 σ3
theorem r_Table_read_47 {g0 : Option xV} {g2 : Option xV} {σ : xSt} {r : Int × xSt} (hf : f_Table_read_47 σ = some r) : Run 5 8 2 kX8_read (47, [g0, some (vR 2), g2], [], σ) (tIW r) := by
  unfold f_Table_read_47 at hf
  refine run_seg (k := 1) (s' := (48, [g0, some (vR 2), g2], [vR 2], σ)) rfl ?_
  refine run_callW (w := fun a => some (vI a)) (m := 125) (as := [vR 2]) (pc := 51) (ls := [g0, some (vR 2), g2]) (st' := []) (σ := σ) hf rfl (fun _ _ h => (c_Tokens_isDone h).mono (by decide)) (fun r8 σ9 hf => ?_)
  exact run_ret hf rfl
theorem r_Table_read_17 : ∀ (n : Nat) {l2 : Int} {σ : xSt} {r : Int × xSt}, f_Table_read_17 n l2 σ = some r → Run 5 8 2 kX8_read (17, [some (vR 27), some (vR 2), some (vI l2)], [], σ) (tIW r) := by
  intro n
  induction n with
  | zero =>
    intro _ _ _ h
    exact nomatch (show (none : Option (Int × xSt)) = some _ from h)
  | succ n ih =>
    intro l2 σ r hf
    unfold f_Table_read_17 at hf
    refine run_seg (k := 3) (s' := (if l2 < 500 then (24, [some (vR 27), some (vR 2), some (vI l2)], [], σ) else (47, [some (vR 27), some (vR 2), some (vI l2)], [], σ))) rfl ?_
    refine run_ite hf (fun _ hf => ?_) (fun _ hf => ?_)
    · refine run_seg (k := 1) (s' := (25, [some (vR 27), some (vR 2), some (vI l2)], [vR 2], σ)) rfl ?_
      refine run_callN (w := fun a => some (vI a)) (m := 121) (as := [vR 2]) (pc := 28) (ls := [some (vR 27), some (vR 2), some (vI l2)]) (st' := []) (σ := σ) hf rfl (fun _ h => (c_Tokens_isOut h).mono (by decide)) (fun r4 hf => ?_)
      refine run_seg (k := 1) (s' := (if r4 = 0 then (31, [some (vR 27), some (vR 2), some (vI l2)], [], σ) else (47, [some (vR 27), some (vR 2), some (vI l2)], [], σ))) rfl ?_
      refine run_ite hf (fun _ hf => ?_) (fun _ hf => ?_)
      · refine run_seg (k := 2) (s' := (33, [some (vR 27), some (vR 2), some (vI l2)], [vR 2, vR 27], σ)) rfl ?_
        refine run_callW (w := fun a => some (vI a)) (m := 100) (as := [vR 27, vR 2]) (pc := 36) (ls := [some (vR 27), some (vR 2), some (vI l2)]) (st' := []) (σ := σ) hf rfl (fun _ _ h => (c_Table_readLine h).mono (by decide)) (fun r5 σ6 hf => ?_)
        refine run_seg (k := 1) (s' := (if r5 = 0 then (39, [some (vR 27), some (vR 2), some (vI l2)], [], σ6) else (41, [some (vR 27), some (vR 2), some (vI l2)], [], σ6))) rfl ?_
        refine run_ite hf (fun _ hf => ?_) (fun _ hf => ?_)
        · refine run_seg (k := 1) (s' := (40, [some (vR 27), some (vR 2), some (vI l2)], [vI 0], σ6)) rfl ?_
          exact run_ret hf rfl
        · refine run_seg (k := 1) (s' := (44, [some (vR 27), some (vR 2), some (vI (w32 (l2 + 1)))], [], σ6)) rfl ?_
          refine run_let (fun x7 => (44, [some (vR 27), some (vR 2), some (vI x7)], [], σ6)) hf (fun x7 hf => ?_)
          refine run_seg (k := 1) (s' := (17, [some (vR 27), some (vR 2), some (vI x7)], [], σ6)) rfl ?_
          exact ih hf
      · exact r_Table_read_47 hf
    · exact r_Table_read_47 hf
theorem c_Table_read {σ : xSt} {r : Int × xSt} (hf : f_Table_read σ = some r) : Call (5 + 1) 99 [vR 27, vR 2] σ (tIW r).1 (tIW r).2 := by
  unfold f_Table_read at hf
  refine call_of (own := 8) (rk := 2) (cd := kX8_read) (ls := [some (vR 27), some (vR 2), none]) (rT := tIW) rfl rfl rfl rfl rfl ?_
  refine run_seg (k := 3) (s' := (5, [some (vR 27), some (vR 2), none], [], upS σ 27 1 0)) rfl ?_
  refine run_let (fun σ1 => (5, [some (vR 27), some (vR 2), none], [], σ1)) hf (fun σ1 hf => ?_)
  refine run_seg (k := 3) (s' := (10, [some (vR 27), some (vR 2), none], [], upS σ1 27 2 0)) rfl ?_
  refine run_let (fun σ2 => (10, [some (vR 27), some (vR 2), none], [], σ2)) hf (fun σ2 hf => ?_)
  refine run_seg (k := 3) (s' := (15, [some (vR 27), some (vR 2), none], [], upS σ2 27 3 (-1))) rfl ?_
  refine run_let (fun σ3 => (15, [some (vR 27), some (vR 2), none], [], σ3)) hf (fun σ3 hf => ?_)
  refine run_seg (k := 2) (s' := (17, [some (vR 27), some (vR 2), some (vI 0)], [], σ3)) rfl ?_
  exact r_Table_read_17 1000000 hf
def f_Table_copyFrom_121 (a0 : Nat) (a1 : Nat) : Nat → Int → xSt → Option (xSt)
  | 0, _, _ => none
  | n + 1, l2, σ =>
    if l2 < 6 then (if 0 ≤ l2 ∧ l2 < 6 then (
    if 0 ≤ l2 ∧ l2 < 6 then (
    xlet (upS σ (a0 + 6) l2.toNat (σ (a1 + 6) l2.toNat)) fun σ12 =>
    if 0 ≤ l2 ∧ l2 < 6 then (
    if 0 ≤ l2 ∧ l2 < 6 then (
    xlet (upS σ12 (a0 + 7) l2.toNat (σ12 (a1 + 7) l2.toNat)) fun σ13 =>
    if 0 ≤ l2 ∧ l2 < 6 then (
    if 0 ≤ l2 ∧ l2 < 6 then (
    xlet (upS σ13 (a0 + 8) l2.toNat (σ13 (a1 + 8) l2.toNat)) fun σ14 =>
    xlet (w32 (l2 + 1)) fun x15 =>
    f_Table_copyFrom_121 a0 a1 n x15 σ14) else none) else none) else none) else none) else none) else none)
    else (some σ)
def f_Table_copyFrom_95 (a0 : Nat) (a1 : Nat) : Nat → Int → xSt → Option (xSt)
  | 0, _, _ => none
  | n + 1, l2, σ =>
    if l2 < 18 then (if 0 ≤ l2 ∧ l2 < 18 then (
    if 0 ≤ l2 ∧ l2 < 18 then (
    xlet (upS σ (a0 + 5) l2.toNat (σ (a1 + 5) l2.toNat)) fun σ10 =>
    xlet (w32 (l2 + 1)) fun x11 =>
    f_Table_copyFrom_95 a0 a1 n x11 σ10) else none) else none)
    else (f_Table_copyFrom_121 a0 a1 1000000 0 σ)
def f_Table_copyFrom_34 (a0 : Nat) (a1 : Nat) : Nat → Int → xSt → Option (xSt)
  | 0, _, _ => none
  | n + 1, l2, σ =>
    if l2 < 3 then (if 0 ≤ l2 ∧ l2 < 3 then (
    if 0 ≤ l2 ∧ l2 < 3 then (
    xlet (upS σ (a0 + 1) l2.toNat (σ (a1 + 1) l2.toNat)) fun σ5 =>
    if 0 ≤ l2 ∧ l2 < 3 then (
    if 0 ≤ l2 ∧ l2 < 3 then (
    xlet (upS σ5 (a0 + 2) l2.toNat (xnb (σ5 (a1 + 2) l2.toNat))) fun σ6 =>
    if 0 ≤ l2 ∧ l2 < 3 then (
    if 0 ≤ l2 ∧ l2 < 3 then (
    xlet (upS σ6 (a0 + 3) l2.toNat (σ6 (a1 + 3) l2.toNat)) fun σ7 =>
    if 0 ≤ l2 ∧ l2 < 3 then (
    if 0 ≤ l2 ∧ l2 < 3 then (
    xlet (upS σ7 (a0 + 4) l2.toNat (σ7 (a1 + 4) l2.toNat)) fun σ8 =>
    xlet (w32 (l2 + 1)) fun x9 =>
    f_Table_copyFrom_34 a0 a1 n x9 σ8) else none) else none) else none) else none) else none) else none) else none) else none)
    else (f_Table_copyFrom_95 a0 a1 1000000 0 σ)
/-- BentPenny$Table.copyFrom(LBentPenny$Table;)V -/
def f_Table_copyFrom (a0 : Nat) (a1 : Nat) (σ : xSt) : Option (xSt) :=
  xlet (upS σ a0 0 (σ a1 0)) fun σ1 =>
  xlet (upS σ1 a0 1 (σ1 a1 1)) fun σ2 =>
  xlet (upS σ2 a0 2 (σ2 a1 2)) fun σ3 =>
  xlet (upS σ3 a0 3 (σ3 a1 3)) fun σ4 =>
  f_Table_copyFrom_34 a0 a1 1000000 0 σ4
theorem r_Table_copyFrom_121_7_27 : ∀ (n : Nat) {l2 : Int} {σ : xSt} {r : xSt}, f_Table_copyFrom_121 7 27 n l2 σ = some r → Run 0 8 0 kX8_copyFrom (121, [some (vR 7), some (vR 27), some (vI l2)], [], σ) (tV r) := by
  intro n
  induction n with
  | zero =>
    intro _ _ _ h
    exact nomatch (show (none : Option (xSt)) = some _ from h)
  | succ n ih =>
    intro l2 σ r hf
    unfold f_Table_copyFrom_121 at hf
    refine run_seg (k := 3) (s' := (if l2 < 6 then (127, [some (vR 7), some (vR 27), some (vI l2)], [], σ) else (169, [some (vR 7), some (vR 27), some (vI l2)], [], σ))) rfl ?_
    refine run_ite hf (fun _ hf => ?_) (fun _ hf => ?_)
    · refine run_seg (k := 6) (s' := (137, [some (vR 7), some (vR 27), some (vI l2)], [vI l2, vR 33, vI l2, vR 13], σ)) rfl ?_
      refine run_guard (s' := (138, [some (vR 7), some (vR 27), some (vI l2)], [vI (σ 33 l2.toNat), vI l2, vR 13], σ)) hf rfl (fun hf => ?_)
      refine run_guard (s' := (139, [some (vR 7), some (vR 27), some (vI l2)], [], upS σ 13 l2.toNat (σ 33 l2.toNat))) hf rfl (fun hf => ?_)
      refine run_let (fun σ12 => (139, [some (vR 7), some (vR 27), some (vI l2)], [], σ12)) hf (fun σ12 hf => ?_)
      refine run_seg (k := 6) (s' := (149, [some (vR 7), some (vR 27), some (vI l2)], [vI l2, vR 34, vI l2, vR 14], σ12)) rfl ?_
      refine run_guard (s' := (150, [some (vR 7), some (vR 27), some (vI l2)], [vI (σ12 34 l2.toNat), vI l2, vR 14], σ12)) hf rfl (fun hf => ?_)
      refine run_guard (s' := (151, [some (vR 7), some (vR 27), some (vI l2)], [], upS σ12 14 l2.toNat (σ12 34 l2.toNat))) hf rfl (fun hf => ?_)
      refine run_let (fun σ13 => (151, [some (vR 7), some (vR 27), some (vI l2)], [], σ13)) hf (fun σ13 hf => ?_)
      refine run_seg (k := 6) (s' := (161, [some (vR 7), some (vR 27), some (vI l2)], [vI l2, vR 35, vI l2, vR 15], σ13)) rfl ?_
      refine run_guard (s' := (162, [some (vR 7), some (vR 27), some (vI l2)], [vI (σ13 35 l2.toNat), vI l2, vR 15], σ13)) hf rfl (fun hf => ?_)
      refine run_guard (s' := (163, [some (vR 7), some (vR 27), some (vI l2)], [], upS σ13 15 l2.toNat (σ13 35 l2.toNat))) hf rfl (fun hf => ?_)
      refine run_let (fun σ14 => (163, [some (vR 7), some (vR 27), some (vI l2)], [], σ14)) hf (fun σ14 hf => ?_)
      refine run_seg (k := 1) (s' := (166, [some (vR 7), some (vR 27), some (vI (w32 (l2 + 1)))], [], σ14)) rfl ?_
      refine run_let (fun x15 => (166, [some (vR 7), some (vR 27), some (vI x15)], [], σ14)) hf (fun x15 hf => ?_)
      refine run_seg (k := 1) (s' := (121, [some (vR 7), some (vR 27), some (vI x15)], [], σ14)) rfl ?_
      exact ih hf
    · exact run_ret hf rfl
theorem r_Table_copyFrom_95_7_27 : ∀ (n : Nat) {l2 : Int} {σ : xSt} {r : xSt}, f_Table_copyFrom_95 7 27 n l2 σ = some r → Run 0 8 0 kX8_copyFrom (95, [some (vR 7), some (vR 27), some (vI l2)], [], σ) (tV r) := by
  intro n
  induction n with
  | zero =>
    intro _ _ _ h
    exact nomatch (show (none : Option (xSt)) = some _ from h)
  | succ n ih =>
    intro l2 σ r hf
    unfold f_Table_copyFrom_95 at hf
    refine run_seg (k := 3) (s' := (if l2 < 18 then (101, [some (vR 7), some (vR 27), some (vI l2)], [], σ) else (119, [some (vR 7), some (vR 27), some (vI l2)], [], σ))) rfl ?_
    refine run_ite hf (fun _ hf => ?_) (fun _ hf => ?_)
    · refine run_seg (k := 6) (s' := (111, [some (vR 7), some (vR 27), some (vI l2)], [vI l2, vR 32, vI l2, vR 12], σ)) rfl ?_
      refine run_guard (s' := (112, [some (vR 7), some (vR 27), some (vI l2)], [vI (σ 32 l2.toNat), vI l2, vR 12], σ)) hf rfl (fun hf => ?_)
      refine run_guard (s' := (113, [some (vR 7), some (vR 27), some (vI l2)], [], upS σ 12 l2.toNat (σ 32 l2.toNat))) hf rfl (fun hf => ?_)
      refine run_let (fun σ10 => (113, [some (vR 7), some (vR 27), some (vI l2)], [], σ10)) hf (fun σ10 hf => ?_)
      refine run_seg (k := 1) (s' := (116, [some (vR 7), some (vR 27), some (vI (w32 (l2 + 1)))], [], σ10)) rfl ?_
      refine run_let (fun x11 => (116, [some (vR 7), some (vR 27), some (vI x11)], [], σ10)) hf (fun x11 hf => ?_)
      refine run_seg (k := 1) (s' := (95, [some (vR 7), some (vR 27), some (vI x11)], [], σ10)) rfl ?_
      exact ih hf
    · refine run_seg (k := 2) (s' := (121, [some (vR 7), some (vR 27), some (vI 0)], [], σ)) rfl ?_
      exact r_Table_copyFrom_121_7_27 1000000 hf
theorem r_Table_copyFrom_34_7_27 : ∀ (n : Nat) {l2 : Int} {σ : xSt} {r : xSt}, f_Table_copyFrom_34 7 27 n l2 σ = some r → Run 0 8 0 kX8_copyFrom (34, [some (vR 7), some (vR 27), some (vI l2)], [], σ) (tV r) := by
  intro n
  induction n with
  | zero =>
    intro _ _ _ h
    exact nomatch (show (none : Option (xSt)) = some _ from h)
  | succ n ih =>
    intro l2 σ r hf
    unfold f_Table_copyFrom_34 at hf
    refine run_seg (k := 3) (s' := (if l2 < 3 then (39, [some (vR 7), some (vR 27), some (vI l2)], [], σ) else (93, [some (vR 7), some (vR 27), some (vI l2)], [], σ))) rfl ?_
    refine run_ite hf (fun _ hf => ?_) (fun _ hf => ?_)
    · refine run_seg (k := 6) (s' := (49, [some (vR 7), some (vR 27), some (vI l2)], [vI l2, vR 28, vI l2, vR 8], σ)) rfl ?_
      refine run_guard (s' := (50, [some (vR 7), some (vR 27), some (vI l2)], [vI (σ 28 l2.toNat), vI l2, vR 8], σ)) hf rfl (fun hf => ?_)
      refine run_guard (s' := (51, [some (vR 7), some (vR 27), some (vI l2)], [], upS σ 8 l2.toNat (σ 28 l2.toNat))) hf rfl (fun hf => ?_)
      refine run_let (fun σ5 => (51, [some (vR 7), some (vR 27), some (vI l2)], [], σ5)) hf (fun σ5 hf => ?_)
      refine run_seg (k := 6) (s' := (61, [some (vR 7), some (vR 27), some (vI l2)], [vI l2, vR 29, vI l2, vR 9], σ5)) rfl ?_
      refine run_guard (s' := (62, [some (vR 7), some (vR 27), some (vI l2)], [vI (σ5 29 l2.toNat), vI l2, vR 9], σ5)) hf rfl (fun hf => ?_)
      refine run_guard (s' := (63, [some (vR 7), some (vR 27), some (vI l2)], [], upS σ5 9 l2.toNat (xnb (σ5 29 l2.toNat)))) hf rfl (fun hf => ?_)
      refine run_let (fun σ6 => (63, [some (vR 7), some (vR 27), some (vI l2)], [], σ6)) hf (fun σ6 hf => ?_)
      refine run_seg (k := 6) (s' := (73, [some (vR 7), some (vR 27), some (vI l2)], [vI l2, vR 30, vI l2, vR 10], σ6)) rfl ?_
      refine run_guard (s' := (74, [some (vR 7), some (vR 27), some (vI l2)], [vI (σ6 30 l2.toNat), vI l2, vR 10], σ6)) hf rfl (fun hf => ?_)
      refine run_guard (s' := (75, [some (vR 7), some (vR 27), some (vI l2)], [], upS σ6 10 l2.toNat (σ6 30 l2.toNat))) hf rfl (fun hf => ?_)
      refine run_let (fun σ7 => (75, [some (vR 7), some (vR 27), some (vI l2)], [], σ7)) hf (fun σ7 hf => ?_)
      refine run_seg (k := 6) (s' := (85, [some (vR 7), some (vR 27), some (vI l2)], [vI l2, vR 31, vI l2, vR 11], σ7)) rfl ?_
      refine run_guard (s' := (86, [some (vR 7), some (vR 27), some (vI l2)], [vI (σ7 31 l2.toNat), vI l2, vR 11], σ7)) hf rfl (fun hf => ?_)
      refine run_guard (s' := (87, [some (vR 7), some (vR 27), some (vI l2)], [], upS σ7 11 l2.toNat (σ7 31 l2.toNat))) hf rfl (fun hf => ?_)
      refine run_let (fun σ8 => (87, [some (vR 7), some (vR 27), some (vI l2)], [], σ8)) hf (fun σ8 hf => ?_)
      refine run_seg (k := 1) (s' := (90, [some (vR 7), some (vR 27), some (vI (w32 (l2 + 1)))], [], σ8)) rfl ?_
      refine run_let (fun x9 => (90, [some (vR 7), some (vR 27), some (vI x9)], [], σ8)) hf (fun x9 hf => ?_)
      refine run_seg (k := 1) (s' := (34, [some (vR 7), some (vR 27), some (vI x9)], [], σ8)) rfl ?_
      exact ih hf
    · refine run_seg (k := 2) (s' := (95, [some (vR 7), some (vR 27), some (vI 0)], [], σ)) rfl ?_
      exact r_Table_copyFrom_95_7_27 1000000 hf
theorem c_Table_copyFrom_7_27 {σ : xSt} {r : xSt} (hf : f_Table_copyFrom 7 27 σ = some r) : Call (0 + 1) 83 [vR 7, vR 27] σ (tV r).1 (tV r).2 := by
  unfold f_Table_copyFrom at hf
  refine call_of (own := 8) (rk := 0) (cd := kX8_copyFrom) (ls := [some (vR 7), some (vR 27), none]) (rT := tV) rfl rfl rfl rfl rfl ?_
  refine run_seg (k := 4) (s' := (8, [some (vR 7), some (vR 27), none], [], upS σ 7 0 (σ 27 0))) rfl ?_
  refine run_let (fun σ1 => (8, [some (vR 7), some (vR 27), none], [], σ1)) hf (fun σ1 hf => ?_)
  refine run_seg (k := 4) (s' := (16, [some (vR 7), some (vR 27), none], [], upS σ1 7 1 (σ1 27 1))) rfl ?_
  refine run_let (fun σ2 => (16, [some (vR 7), some (vR 27), none], [], σ2)) hf (fun σ2 hf => ?_)
  refine run_seg (k := 4) (s' := (24, [some (vR 7), some (vR 27), none], [], upS σ2 7 2 (σ2 27 2))) rfl ?_
  refine run_let (fun σ3 => (24, [some (vR 7), some (vR 27), none], [], σ3)) hf (fun σ3 hf => ?_)
  refine run_seg (k := 4) (s' := (32, [some (vR 7), some (vR 27), none], [], upS σ3 7 3 (σ3 27 3))) rfl ?_
  refine run_let (fun σ4 => (32, [some (vR 7), some (vR 27), none], [], σ4)) hf (fun σ4 hf => ?_)
  refine run_seg (k := 2) (s' := (34, [some (vR 7), some (vR 27), some (vI 0)], [], σ4)) rfl ?_
  exact r_Table_copyFrom_34_7_27 1000000 hf
theorem r_Table_copyFrom_121_7_48 : ∀ (n : Nat) {l2 : Int} {σ : xSt} {r : xSt}, f_Table_copyFrom_121 7 48 n l2 σ = some r → Run 0 8 0 kX8_copyFrom (121, [some (vR 7), some (vR 48), some (vI l2)], [], σ) (tV r) := by
  intro n
  induction n with
  | zero =>
    intro _ _ _ h
    exact nomatch (show (none : Option (xSt)) = some _ from h)
  | succ n ih =>
    intro l2 σ r hf
    unfold f_Table_copyFrom_121 at hf
    refine run_seg (k := 3) (s' := (if l2 < 6 then (127, [some (vR 7), some (vR 48), some (vI l2)], [], σ) else (169, [some (vR 7), some (vR 48), some (vI l2)], [], σ))) rfl ?_
    refine run_ite hf (fun _ hf => ?_) (fun _ hf => ?_)
    · refine run_seg (k := 6) (s' := (137, [some (vR 7), some (vR 48), some (vI l2)], [vI l2, vR 54, vI l2, vR 13], σ)) rfl ?_
      refine run_guard (s' := (138, [some (vR 7), some (vR 48), some (vI l2)], [vI (σ 54 l2.toNat), vI l2, vR 13], σ)) hf rfl (fun hf => ?_)
      refine run_guard (s' := (139, [some (vR 7), some (vR 48), some (vI l2)], [], upS σ 13 l2.toNat (σ 54 l2.toNat))) hf rfl (fun hf => ?_)
      refine run_let (fun σ12 => (139, [some (vR 7), some (vR 48), some (vI l2)], [], σ12)) hf (fun σ12 hf => ?_)
      refine run_seg (k := 6) (s' := (149, [some (vR 7), some (vR 48), some (vI l2)], [vI l2, vR 55, vI l2, vR 14], σ12)) rfl ?_
      refine run_guard (s' := (150, [some (vR 7), some (vR 48), some (vI l2)], [vI (σ12 55 l2.toNat), vI l2, vR 14], σ12)) hf rfl (fun hf => ?_)
      refine run_guard (s' := (151, [some (vR 7), some (vR 48), some (vI l2)], [], upS σ12 14 l2.toNat (σ12 55 l2.toNat))) hf rfl (fun hf => ?_)
      refine run_let (fun σ13 => (151, [some (vR 7), some (vR 48), some (vI l2)], [], σ13)) hf (fun σ13 hf => ?_)
      refine run_seg (k := 6) (s' := (161, [some (vR 7), some (vR 48), some (vI l2)], [vI l2, vR 56, vI l2, vR 15], σ13)) rfl ?_
      refine run_guard (s' := (162, [some (vR 7), some (vR 48), some (vI l2)], [vI (σ13 56 l2.toNat), vI l2, vR 15], σ13)) hf rfl (fun hf => ?_)
      refine run_guard (s' := (163, [some (vR 7), some (vR 48), some (vI l2)], [], upS σ13 15 l2.toNat (σ13 56 l2.toNat))) hf rfl (fun hf => ?_)
      refine run_let (fun σ14 => (163, [some (vR 7), some (vR 48), some (vI l2)], [], σ14)) hf (fun σ14 hf => ?_)
      refine run_seg (k := 1) (s' := (166, [some (vR 7), some (vR 48), some (vI (w32 (l2 + 1)))], [], σ14)) rfl ?_
      refine run_let (fun x15 => (166, [some (vR 7), some (vR 48), some (vI x15)], [], σ14)) hf (fun x15 hf => ?_)
      refine run_seg (k := 1) (s' := (121, [some (vR 7), some (vR 48), some (vI x15)], [], σ14)) rfl ?_
      exact ih hf
    · exact run_ret hf rfl
theorem r_Table_copyFrom_95_7_48 : ∀ (n : Nat) {l2 : Int} {σ : xSt} {r : xSt}, f_Table_copyFrom_95 7 48 n l2 σ = some r → Run 0 8 0 kX8_copyFrom (95, [some (vR 7), some (vR 48), some (vI l2)], [], σ) (tV r) := by
  intro n
  induction n with
  | zero =>
    intro _ _ _ h
    exact nomatch (show (none : Option (xSt)) = some _ from h)
  | succ n ih =>
    intro l2 σ r hf
    unfold f_Table_copyFrom_95 at hf
    refine run_seg (k := 3) (s' := (if l2 < 18 then (101, [some (vR 7), some (vR 48), some (vI l2)], [], σ) else (119, [some (vR 7), some (vR 48), some (vI l2)], [], σ))) rfl ?_
    refine run_ite hf (fun _ hf => ?_) (fun _ hf => ?_)
    · refine run_seg (k := 6) (s' := (111, [some (vR 7), some (vR 48), some (vI l2)], [vI l2, vR 53, vI l2, vR 12], σ)) rfl ?_
      refine run_guard (s' := (112, [some (vR 7), some (vR 48), some (vI l2)], [vI (σ 53 l2.toNat), vI l2, vR 12], σ)) hf rfl (fun hf => ?_)
      refine run_guard (s' := (113, [some (vR 7), some (vR 48), some (vI l2)], [], upS σ 12 l2.toNat (σ 53 l2.toNat))) hf rfl (fun hf => ?_)
      refine run_let (fun σ10 => (113, [some (vR 7), some (vR 48), some (vI l2)], [], σ10)) hf (fun σ10 hf => ?_)
      refine run_seg (k := 1) (s' := (116, [some (vR 7), some (vR 48), some (vI (w32 (l2 + 1)))], [], σ10)) rfl ?_
      refine run_let (fun x11 => (116, [some (vR 7), some (vR 48), some (vI x11)], [], σ10)) hf (fun x11 hf => ?_)
      refine run_seg (k := 1) (s' := (95, [some (vR 7), some (vR 48), some (vI x11)], [], σ10)) rfl ?_
      exact ih hf
    · refine run_seg (k := 2) (s' := (121, [some (vR 7), some (vR 48), some (vI 0)], [], σ)) rfl ?_
      exact r_Table_copyFrom_121_7_48 1000000 hf
theorem r_Table_copyFrom_34_7_48 : ∀ (n : Nat) {l2 : Int} {σ : xSt} {r : xSt}, f_Table_copyFrom_34 7 48 n l2 σ = some r → Run 0 8 0 kX8_copyFrom (34, [some (vR 7), some (vR 48), some (vI l2)], [], σ) (tV r) := by
  intro n
  induction n with
  | zero =>
    intro _ _ _ h
    exact nomatch (show (none : Option (xSt)) = some _ from h)
  | succ n ih =>
    intro l2 σ r hf
    unfold f_Table_copyFrom_34 at hf
    refine run_seg (k := 3) (s' := (if l2 < 3 then (39, [some (vR 7), some (vR 48), some (vI l2)], [], σ) else (93, [some (vR 7), some (vR 48), some (vI l2)], [], σ))) rfl ?_
    refine run_ite hf (fun _ hf => ?_) (fun _ hf => ?_)
    · refine run_seg (k := 6) (s' := (49, [some (vR 7), some (vR 48), some (vI l2)], [vI l2, vR 49, vI l2, vR 8], σ)) rfl ?_
      refine run_guard (s' := (50, [some (vR 7), some (vR 48), some (vI l2)], [vI (σ 49 l2.toNat), vI l2, vR 8], σ)) hf rfl (fun hf => ?_)
      refine run_guard (s' := (51, [some (vR 7), some (vR 48), some (vI l2)], [], upS σ 8 l2.toNat (σ 49 l2.toNat))) hf rfl (fun hf => ?_)
      refine run_let (fun σ5 => (51, [some (vR 7), some (vR 48), some (vI l2)], [], σ5)) hf (fun σ5 hf => ?_)
      refine run_seg (k := 6) (s' := (61, [some (vR 7), some (vR 48), some (vI l2)], [vI l2, vR 50, vI l2, vR 9], σ5)) rfl ?_
      refine run_guard (s' := (62, [some (vR 7), some (vR 48), some (vI l2)], [vI (σ5 50 l2.toNat), vI l2, vR 9], σ5)) hf rfl (fun hf => ?_)
      refine run_guard (s' := (63, [some (vR 7), some (vR 48), some (vI l2)], [], upS σ5 9 l2.toNat (xnb (σ5 50 l2.toNat)))) hf rfl (fun hf => ?_)
      refine run_let (fun σ6 => (63, [some (vR 7), some (vR 48), some (vI l2)], [], σ6)) hf (fun σ6 hf => ?_)
      refine run_seg (k := 6) (s' := (73, [some (vR 7), some (vR 48), some (vI l2)], [vI l2, vR 51, vI l2, vR 10], σ6)) rfl ?_
      refine run_guard (s' := (74, [some (vR 7), some (vR 48), some (vI l2)], [vI (σ6 51 l2.toNat), vI l2, vR 10], σ6)) hf rfl (fun hf => ?_)
      refine run_guard (s' := (75, [some (vR 7), some (vR 48), some (vI l2)], [], upS σ6 10 l2.toNat (σ6 51 l2.toNat))) hf rfl (fun hf => ?_)
      refine run_let (fun σ7 => (75, [some (vR 7), some (vR 48), some (vI l2)], [], σ7)) hf (fun σ7 hf => ?_)
      refine run_seg (k := 6) (s' := (85, [some (vR 7), some (vR 48), some (vI l2)], [vI l2, vR 52, vI l2, vR 11], σ7)) rfl ?_
      refine run_guard (s' := (86, [some (vR 7), some (vR 48), some (vI l2)], [vI (σ7 52 l2.toNat), vI l2, vR 11], σ7)) hf rfl (fun hf => ?_)
      refine run_guard (s' := (87, [some (vR 7), some (vR 48), some (vI l2)], [], upS σ7 11 l2.toNat (σ7 52 l2.toNat))) hf rfl (fun hf => ?_)
      refine run_let (fun σ8 => (87, [some (vR 7), some (vR 48), some (vI l2)], [], σ8)) hf (fun σ8 hf => ?_)
      refine run_seg (k := 1) (s' := (90, [some (vR 7), some (vR 48), some (vI (w32 (l2 + 1)))], [], σ8)) rfl ?_
      refine run_let (fun x9 => (90, [some (vR 7), some (vR 48), some (vI x9)], [], σ8)) hf (fun x9 hf => ?_)
      refine run_seg (k := 1) (s' := (34, [some (vR 7), some (vR 48), some (vI x9)], [], σ8)) rfl ?_
      exact ih hf
    · refine run_seg (k := 2) (s' := (95, [some (vR 7), some (vR 48), some (vI 0)], [], σ)) rfl ?_
      exact r_Table_copyFrom_95_7_48 1000000 hf
theorem c_Table_copyFrom_7_48 {σ : xSt} {r : xSt} (hf : f_Table_copyFrom 7 48 σ = some r) : Call (0 + 1) 83 [vR 7, vR 48] σ (tV r).1 (tV r).2 := by
  unfold f_Table_copyFrom at hf
  refine call_of (own := 8) (rk := 0) (cd := kX8_copyFrom) (ls := [some (vR 7), some (vR 48), none]) (rT := tV) rfl rfl rfl rfl rfl ?_
  refine run_seg (k := 4) (s' := (8, [some (vR 7), some (vR 48), none], [], upS σ 7 0 (σ 48 0))) rfl ?_
  refine run_let (fun σ1 => (8, [some (vR 7), some (vR 48), none], [], σ1)) hf (fun σ1 hf => ?_)
  refine run_seg (k := 4) (s' := (16, [some (vR 7), some (vR 48), none], [], upS σ1 7 1 (σ1 48 1))) rfl ?_
  refine run_let (fun σ2 => (16, [some (vR 7), some (vR 48), none], [], σ2)) hf (fun σ2 hf => ?_)
  refine run_seg (k := 4) (s' := (24, [some (vR 7), some (vR 48), none], [], upS σ2 7 2 (σ2 48 2))) rfl ?_
  refine run_let (fun σ3 => (24, [some (vR 7), some (vR 48), none], [], σ3)) hf (fun σ3 hf => ?_)
  refine run_seg (k := 4) (s' := (32, [some (vR 7), some (vR 48), none], [], upS σ3 7 3 (σ3 48 3))) rfl ?_
  refine run_let (fun σ4 => (32, [some (vR 7), some (vR 48), none], [], σ4)) hf (fun σ4 hf => ?_)
  refine run_seg (k := 2) (s' := (34, [some (vR 7), some (vR 48), some (vI 0)], [], σ4)) rfl ?_
  exact r_Table_copyFrom_34_7_48 1000000 hf
theorem r_Table_copyFrom_121_7_68 : ∀ (n : Nat) {l2 : Int} {σ : xSt} {r : xSt}, f_Table_copyFrom_121 7 68 n l2 σ = some r → Run 0 8 0 kX8_copyFrom (121, [some (vR 7), some (vR 68), some (vI l2)], [], σ) (tV r) := by
  intro n
  induction n with
  | zero =>
    intro _ _ _ h
    exact nomatch (show (none : Option (xSt)) = some _ from h)
  | succ n ih =>
    intro l2 σ r hf
    unfold f_Table_copyFrom_121 at hf
    refine run_seg (k := 3) (s' := (if l2 < 6 then (127, [some (vR 7), some (vR 68), some (vI l2)], [], σ) else (169, [some (vR 7), some (vR 68), some (vI l2)], [], σ))) rfl ?_
    refine run_ite hf (fun _ hf => ?_) (fun _ hf => ?_)
    · refine run_seg (k := 6) (s' := (137, [some (vR 7), some (vR 68), some (vI l2)], [vI l2, vR 74, vI l2, vR 13], σ)) rfl ?_
      refine run_guard (s' := (138, [some (vR 7), some (vR 68), some (vI l2)], [vI (σ 74 l2.toNat), vI l2, vR 13], σ)) hf rfl (fun hf => ?_)
      refine run_guard (s' := (139, [some (vR 7), some (vR 68), some (vI l2)], [], upS σ 13 l2.toNat (σ 74 l2.toNat))) hf rfl (fun hf => ?_)
      refine run_let (fun σ12 => (139, [some (vR 7), some (vR 68), some (vI l2)], [], σ12)) hf (fun σ12 hf => ?_)
      refine run_seg (k := 6) (s' := (149, [some (vR 7), some (vR 68), some (vI l2)], [vI l2, vR 75, vI l2, vR 14], σ12)) rfl ?_
      refine run_guard (s' := (150, [some (vR 7), some (vR 68), some (vI l2)], [vI (σ12 75 l2.toNat), vI l2, vR 14], σ12)) hf rfl (fun hf => ?_)
      refine run_guard (s' := (151, [some (vR 7), some (vR 68), some (vI l2)], [], upS σ12 14 l2.toNat (σ12 75 l2.toNat))) hf rfl (fun hf => ?_)
      refine run_let (fun σ13 => (151, [some (vR 7), some (vR 68), some (vI l2)], [], σ13)) hf (fun σ13 hf => ?_)
      refine run_seg (k := 6) (s' := (161, [some (vR 7), some (vR 68), some (vI l2)], [vI l2, vR 76, vI l2, vR 15], σ13)) rfl ?_
      refine run_guard (s' := (162, [some (vR 7), some (vR 68), some (vI l2)], [vI (σ13 76 l2.toNat), vI l2, vR 15], σ13)) hf rfl (fun hf => ?_)
      refine run_guard (s' := (163, [some (vR 7), some (vR 68), some (vI l2)], [], upS σ13 15 l2.toNat (σ13 76 l2.toNat))) hf rfl (fun hf => ?_)
      refine run_let (fun σ14 => (163, [some (vR 7), some (vR 68), some (vI l2)], [], σ14)) hf (fun σ14 hf => ?_)
      refine run_seg (k := 1) (s' := (166, [some (vR 7), some (vR 68), some (vI (w32 (l2 + 1)))], [], σ14)) rfl ?_
      refine run_let (fun x15 => (166, [some (vR 7), some (vR 68), some (vI x15)], [], σ14)) hf (fun x15 hf => ?_)
      refine run_seg (k := 1) (s' := (121, [some (vR 7), some (vR 68), some (vI x15)], [], σ14)) rfl ?_
      exact ih hf
    · exact run_ret hf rfl
theorem r_Table_copyFrom_95_7_68 : ∀ (n : Nat) {l2 : Int} {σ : xSt} {r : xSt}, f_Table_copyFrom_95 7 68 n l2 σ = some r → Run 0 8 0 kX8_copyFrom (95, [some (vR 7), some (vR 68), some (vI l2)], [], σ) (tV r) := by
  intro n
  induction n with
  | zero =>
    intro _ _ _ h
    exact nomatch (show (none : Option (xSt)) = some _ from h)
  | succ n ih =>
    intro l2 σ r hf
    unfold f_Table_copyFrom_95 at hf
    refine run_seg (k := 3) (s' := (if l2 < 18 then (101, [some (vR 7), some (vR 68), some (vI l2)], [], σ) else (119, [some (vR 7), some (vR 68), some (vI l2)], [], σ))) rfl ?_
    refine run_ite hf (fun _ hf => ?_) (fun _ hf => ?_)
    · refine run_seg (k := 6) (s' := (111, [some (vR 7), some (vR 68), some (vI l2)], [vI l2, vR 73, vI l2, vR 12], σ)) rfl ?_
      refine run_guard (s' := (112, [some (vR 7), some (vR 68), some (vI l2)], [vI (σ 73 l2.toNat), vI l2, vR 12], σ)) hf rfl (fun hf => ?_)
      refine run_guard (s' := (113, [some (vR 7), some (vR 68), some (vI l2)], [], upS σ 12 l2.toNat (σ 73 l2.toNat))) hf rfl (fun hf => ?_)
      refine run_let (fun σ10 => (113, [some (vR 7), some (vR 68), some (vI l2)], [], σ10)) hf (fun σ10 hf => ?_)
      refine run_seg (k := 1) (s' := (116, [some (vR 7), some (vR 68), some (vI (w32 (l2 + 1)))], [], σ10)) rfl ?_
      refine run_let (fun x11 => (116, [some (vR 7), some (vR 68), some (vI x11)], [], σ10)) hf (fun x11 hf => ?_)
      refine run_seg (k := 1) (s' := (95, [some (vR 7), some (vR 68), some (vI x11)], [], σ10)) rfl ?_
      exact ih hf
    · refine run_seg (k := 2) (s' := (121, [some (vR 7), some (vR 68), some (vI 0)], [], σ)) rfl ?_
      exact r_Table_copyFrom_121_7_68 1000000 hf
theorem r_Table_copyFrom_34_7_68 : ∀ (n : Nat) {l2 : Int} {σ : xSt} {r : xSt}, f_Table_copyFrom_34 7 68 n l2 σ = some r → Run 0 8 0 kX8_copyFrom (34, [some (vR 7), some (vR 68), some (vI l2)], [], σ) (tV r) := by
  intro n
  induction n with
  | zero =>
    intro _ _ _ h
    exact nomatch (show (none : Option (xSt)) = some _ from h)
  | succ n ih =>
    intro l2 σ r hf
    unfold f_Table_copyFrom_34 at hf
    refine run_seg (k := 3) (s' := (if l2 < 3 then (39, [some (vR 7), some (vR 68), some (vI l2)], [], σ) else (93, [some (vR 7), some (vR 68), some (vI l2)], [], σ))) rfl ?_
    refine run_ite hf (fun _ hf => ?_) (fun _ hf => ?_)
    · refine run_seg (k := 6) (s' := (49, [some (vR 7), some (vR 68), some (vI l2)], [vI l2, vR 69, vI l2, vR 8], σ)) rfl ?_
      refine run_guard (s' := (50, [some (vR 7), some (vR 68), some (vI l2)], [vI (σ 69 l2.toNat), vI l2, vR 8], σ)) hf rfl (fun hf => ?_)
      refine run_guard (s' := (51, [some (vR 7), some (vR 68), some (vI l2)], [], upS σ 8 l2.toNat (σ 69 l2.toNat))) hf rfl (fun hf => ?_)
      refine run_let (fun σ5 => (51, [some (vR 7), some (vR 68), some (vI l2)], [], σ5)) hf (fun σ5 hf => ?_)
      refine run_seg (k := 6) (s' := (61, [some (vR 7), some (vR 68), some (vI l2)], [vI l2, vR 70, vI l2, vR 9], σ5)) rfl ?_
      refine run_guard (s' := (62, [some (vR 7), some (vR 68), some (vI l2)], [vI (σ5 70 l2.toNat), vI l2, vR 9], σ5)) hf rfl (fun hf => ?_)
      refine run_guard (s' := (63, [some (vR 7), some (vR 68), some (vI l2)], [], upS σ5 9 l2.toNat (xnb (σ5 70 l2.toNat)))) hf rfl (fun hf => ?_)
      refine run_let (fun σ6 => (63, [some (vR 7), some (vR 68), some (vI l2)], [], σ6)) hf (fun σ6 hf => ?_)
      refine run_seg (k := 6) (s' := (73, [some (vR 7), some (vR 68), some (vI l2)], [vI l2, vR 71, vI l2, vR 10], σ6)) rfl ?_
      refine run_guard (s' := (74, [some (vR 7), some (vR 68), some (vI l2)], [vI (σ6 71 l2.toNat), vI l2, vR 10], σ6)) hf rfl (fun hf => ?_)
      refine run_guard (s' := (75, [some (vR 7), some (vR 68), some (vI l2)], [], upS σ6 10 l2.toNat (σ6 71 l2.toNat))) hf rfl (fun hf => ?_)
      refine run_let (fun σ7 => (75, [some (vR 7), some (vR 68), some (vI l2)], [], σ7)) hf (fun σ7 hf => ?_)
      refine run_seg (k := 6) (s' := (85, [some (vR 7), some (vR 68), some (vI l2)], [vI l2, vR 72, vI l2, vR 11], σ7)) rfl ?_
      refine run_guard (s' := (86, [some (vR 7), some (vR 68), some (vI l2)], [vI (σ7 72 l2.toNat), vI l2, vR 11], σ7)) hf rfl (fun hf => ?_)
      refine run_guard (s' := (87, [some (vR 7), some (vR 68), some (vI l2)], [], upS σ7 11 l2.toNat (σ7 72 l2.toNat))) hf rfl (fun hf => ?_)
      refine run_let (fun σ8 => (87, [some (vR 7), some (vR 68), some (vI l2)], [], σ8)) hf (fun σ8 hf => ?_)
      refine run_seg (k := 1) (s' := (90, [some (vR 7), some (vR 68), some (vI (w32 (l2 + 1)))], [], σ8)) rfl ?_
      refine run_let (fun x9 => (90, [some (vR 7), some (vR 68), some (vI x9)], [], σ8)) hf (fun x9 hf => ?_)
      refine run_seg (k := 1) (s' := (34, [some (vR 7), some (vR 68), some (vI x9)], [], σ8)) rfl ?_
      exact ih hf
    · refine run_seg (k := 2) (s' := (95, [some (vR 7), some (vR 68), some (vI 0)], [], σ)) rfl ?_
      exact r_Table_copyFrom_95_7_68 1000000 hf
theorem c_Table_copyFrom_7_68 {σ : xSt} {r : xSt} (hf : f_Table_copyFrom 7 68 σ = some r) : Call (0 + 1) 83 [vR 7, vR 68] σ (tV r).1 (tV r).2 := by
  unfold f_Table_copyFrom at hf
  refine call_of (own := 8) (rk := 0) (cd := kX8_copyFrom) (ls := [some (vR 7), some (vR 68), none]) (rT := tV) rfl rfl rfl rfl rfl ?_
  refine run_seg (k := 4) (s' := (8, [some (vR 7), some (vR 68), none], [], upS σ 7 0 (σ 68 0))) rfl ?_
  refine run_let (fun σ1 => (8, [some (vR 7), some (vR 68), none], [], σ1)) hf (fun σ1 hf => ?_)
  refine run_seg (k := 4) (s' := (16, [some (vR 7), some (vR 68), none], [], upS σ1 7 1 (σ1 68 1))) rfl ?_
  refine run_let (fun σ2 => (16, [some (vR 7), some (vR 68), none], [], σ2)) hf (fun σ2 hf => ?_)
  refine run_seg (k := 4) (s' := (24, [some (vR 7), some (vR 68), none], [], upS σ2 7 2 (σ2 68 2))) rfl ?_
  refine run_let (fun σ3 => (24, [some (vR 7), some (vR 68), none], [], σ3)) hf (fun σ3 hf => ?_)
  refine run_seg (k := 4) (s' := (32, [some (vR 7), some (vR 68), none], [], upS σ3 7 3 (σ3 68 3))) rfl ?_
  refine run_let (fun σ4 => (32, [some (vR 7), some (vR 68), none], [], σ4)) hf (fun σ4 hf => ?_)
  refine run_seg (k := 2) (s' := (34, [some (vR 7), some (vR 68), some (vI 0)], [], σ4)) rfl ?_
  exact r_Table_copyFrom_34_7_68 1000000 hf
theorem r_Table_copyFrom_121_48_7 : ∀ (n : Nat) {l2 : Int} {σ : xSt} {r : xSt}, f_Table_copyFrom_121 48 7 n l2 σ = some r → Run 0 8 0 kX8_copyFrom (121, [some (vR 48), some (vR 7), some (vI l2)], [], σ) (tV r) := by
  intro n
  induction n with
  | zero =>
    intro _ _ _ h
    exact nomatch (show (none : Option (xSt)) = some _ from h)
  | succ n ih =>
    intro l2 σ r hf
    unfold f_Table_copyFrom_121 at hf
    refine run_seg (k := 3) (s' := (if l2 < 6 then (127, [some (vR 48), some (vR 7), some (vI l2)], [], σ) else (169, [some (vR 48), some (vR 7), some (vI l2)], [], σ))) rfl ?_
    refine run_ite hf (fun _ hf => ?_) (fun _ hf => ?_)
    · refine run_seg (k := 6) (s' := (137, [some (vR 48), some (vR 7), some (vI l2)], [vI l2, vR 13, vI l2, vR 54], σ)) rfl ?_
      refine run_guard (s' := (138, [some (vR 48), some (vR 7), some (vI l2)], [vI (σ 13 l2.toNat), vI l2, vR 54], σ)) hf rfl (fun hf => ?_)
      refine run_guard (s' := (139, [some (vR 48), some (vR 7), some (vI l2)], [], upS σ 54 l2.toNat (σ 13 l2.toNat))) hf rfl (fun hf => ?_)
      refine run_let (fun σ12 => (139, [some (vR 48), some (vR 7), some (vI l2)], [], σ12)) hf (fun σ12 hf => ?_)
      refine run_seg (k := 6) (s' := (149, [some (vR 48), some (vR 7), some (vI l2)], [vI l2, vR 14, vI l2, vR 55], σ12)) rfl ?_
      refine run_guard (s' := (150, [some (vR 48), some (vR 7), some (vI l2)], [vI (σ12 14 l2.toNat), vI l2, vR 55], σ12)) hf rfl (fun hf => ?_)
      refine run_guard (s' := (151, [some (vR 48), some (vR 7), some (vI l2)], [], upS σ12 55 l2.toNat (σ12 14 l2.toNat))) hf rfl (fun hf => ?_)
      refine run_let (fun σ13 => (151, [some (vR 48), some (vR 7), some (vI l2)], [], σ13)) hf (fun σ13 hf => ?_)
      refine run_seg (k := 6) (s' := (161, [some (vR 48), some (vR 7), some (vI l2)], [vI l2, vR 15, vI l2, vR 56], σ13)) rfl ?_
      refine run_guard (s' := (162, [some (vR 48), some (vR 7), some (vI l2)], [vI (σ13 15 l2.toNat), vI l2, vR 56], σ13)) hf rfl (fun hf => ?_)
      refine run_guard (s' := (163, [some (vR 48), some (vR 7), some (vI l2)], [], upS σ13 56 l2.toNat (σ13 15 l2.toNat))) hf rfl (fun hf => ?_)
      refine run_let (fun σ14 => (163, [some (vR 48), some (vR 7), some (vI l2)], [], σ14)) hf (fun σ14 hf => ?_)
      refine run_seg (k := 1) (s' := (166, [some (vR 48), some (vR 7), some (vI (w32 (l2 + 1)))], [], σ14)) rfl ?_
      refine run_let (fun x15 => (166, [some (vR 48), some (vR 7), some (vI x15)], [], σ14)) hf (fun x15 hf => ?_)
      refine run_seg (k := 1) (s' := (121, [some (vR 48), some (vR 7), some (vI x15)], [], σ14)) rfl ?_
      exact ih hf
    · exact run_ret hf rfl
theorem r_Table_copyFrom_95_48_7 : ∀ (n : Nat) {l2 : Int} {σ : xSt} {r : xSt}, f_Table_copyFrom_95 48 7 n l2 σ = some r → Run 0 8 0 kX8_copyFrom (95, [some (vR 48), some (vR 7), some (vI l2)], [], σ) (tV r) := by
  intro n
  induction n with
  | zero =>
    intro _ _ _ h
    exact nomatch (show (none : Option (xSt)) = some _ from h)
  | succ n ih =>
    intro l2 σ r hf
    unfold f_Table_copyFrom_95 at hf
    refine run_seg (k := 3) (s' := (if l2 < 18 then (101, [some (vR 48), some (vR 7), some (vI l2)], [], σ) else (119, [some (vR 48), some (vR 7), some (vI l2)], [], σ))) rfl ?_
    refine run_ite hf (fun _ hf => ?_) (fun _ hf => ?_)
    · refine run_seg (k := 6) (s' := (111, [some (vR 48), some (vR 7), some (vI l2)], [vI l2, vR 12, vI l2, vR 53], σ)) rfl ?_
      refine run_guard (s' := (112, [some (vR 48), some (vR 7), some (vI l2)], [vI (σ 12 l2.toNat), vI l2, vR 53], σ)) hf rfl (fun hf => ?_)
      refine run_guard (s' := (113, [some (vR 48), some (vR 7), some (vI l2)], [], upS σ 53 l2.toNat (σ 12 l2.toNat))) hf rfl (fun hf => ?_)
      refine run_let (fun σ10 => (113, [some (vR 48), some (vR 7), some (vI l2)], [], σ10)) hf (fun σ10 hf => ?_)
      refine run_seg (k := 1) (s' := (116, [some (vR 48), some (vR 7), some (vI (w32 (l2 + 1)))], [], σ10)) rfl ?_
      refine run_let (fun x11 => (116, [some (vR 48), some (vR 7), some (vI x11)], [], σ10)) hf (fun x11 hf => ?_)
      refine run_seg (k := 1) (s' := (95, [some (vR 48), some (vR 7), some (vI x11)], [], σ10)) rfl ?_
      exact ih hf
    · refine run_seg (k := 2) (s' := (121, [some (vR 48), some (vR 7), some (vI 0)], [], σ)) rfl ?_
      exact r_Table_copyFrom_121_48_7 1000000 hf
theorem r_Table_copyFrom_34_48_7 : ∀ (n : Nat) {l2 : Int} {σ : xSt} {r : xSt}, f_Table_copyFrom_34 48 7 n l2 σ = some r → Run 0 8 0 kX8_copyFrom (34, [some (vR 48), some (vR 7), some (vI l2)], [], σ) (tV r) := by
  intro n
  induction n with
  | zero =>
    intro _ _ _ h
    exact nomatch (show (none : Option (xSt)) = some _ from h)
  | succ n ih =>
    intro l2 σ r hf
    unfold f_Table_copyFrom_34 at hf
    refine run_seg (k := 3) (s' := (if l2 < 3 then (39, [some (vR 48), some (vR 7), some (vI l2)], [], σ) else (93, [some (vR 48), some (vR 7), some (vI l2)], [], σ))) rfl ?_
    refine run_ite hf (fun _ hf => ?_) (fun _ hf => ?_)
    · refine run_seg (k := 6) (s' := (49, [some (vR 48), some (vR 7), some (vI l2)], [vI l2, vR 8, vI l2, vR 49], σ)) rfl ?_
      refine run_guard (s' := (50, [some (vR 48), some (vR 7), some (vI l2)], [vI (σ 8 l2.toNat), vI l2, vR 49], σ)) hf rfl (fun hf => ?_)
      refine run_guard (s' := (51, [some (vR 48), some (vR 7), some (vI l2)], [], upS σ 49 l2.toNat (σ 8 l2.toNat))) hf rfl (fun hf => ?_)
      refine run_let (fun σ5 => (51, [some (vR 48), some (vR 7), some (vI l2)], [], σ5)) hf (fun σ5 hf => ?_)
      refine run_seg (k := 6) (s' := (61, [some (vR 48), some (vR 7), some (vI l2)], [vI l2, vR 9, vI l2, vR 50], σ5)) rfl ?_
      refine run_guard (s' := (62, [some (vR 48), some (vR 7), some (vI l2)], [vI (σ5 9 l2.toNat), vI l2, vR 50], σ5)) hf rfl (fun hf => ?_)
      refine run_guard (s' := (63, [some (vR 48), some (vR 7), some (vI l2)], [], upS σ5 50 l2.toNat (xnb (σ5 9 l2.toNat)))) hf rfl (fun hf => ?_)
      refine run_let (fun σ6 => (63, [some (vR 48), some (vR 7), some (vI l2)], [], σ6)) hf (fun σ6 hf => ?_)
      refine run_seg (k := 6) (s' := (73, [some (vR 48), some (vR 7), some (vI l2)], [vI l2, vR 10, vI l2, vR 51], σ6)) rfl ?_
      refine run_guard (s' := (74, [some (vR 48), some (vR 7), some (vI l2)], [vI (σ6 10 l2.toNat), vI l2, vR 51], σ6)) hf rfl (fun hf => ?_)
      refine run_guard (s' := (75, [some (vR 48), some (vR 7), some (vI l2)], [], upS σ6 51 l2.toNat (σ6 10 l2.toNat))) hf rfl (fun hf => ?_)
      refine run_let (fun σ7 => (75, [some (vR 48), some (vR 7), some (vI l2)], [], σ7)) hf (fun σ7 hf => ?_)
      refine run_seg (k := 6) (s' := (85, [some (vR 48), some (vR 7), some (vI l2)], [vI l2, vR 11, vI l2, vR 52], σ7)) rfl ?_
      refine run_guard (s' := (86, [some (vR 48), some (vR 7), some (vI l2)], [vI (σ7 11 l2.toNat), vI l2, vR 52], σ7)) hf rfl (fun hf => ?_)
      refine run_guard (s' := (87, [some (vR 48), some (vR 7), some (vI l2)], [], upS σ7 52 l2.toNat (σ7 11 l2.toNat))) hf rfl (fun hf => ?_)
      refine run_let (fun σ8 => (87, [some (vR 48), some (vR 7), some (vI l2)], [], σ8)) hf (fun σ8 hf => ?_)
      refine run_seg (k := 1) (s' := (90, [some (vR 48), some (vR 7), some (vI (w32 (l2 + 1)))], [], σ8)) rfl ?_
      refine run_let (fun x9 => (90, [some (vR 48), some (vR 7), some (vI x9)], [], σ8)) hf (fun x9 hf => ?_)
      refine run_seg (k := 1) (s' := (34, [some (vR 48), some (vR 7), some (vI x9)], [], σ8)) rfl ?_
      exact ih hf
    · refine run_seg (k := 2) (s' := (95, [some (vR 48), some (vR 7), some (vI 0)], [], σ)) rfl ?_
      exact r_Table_copyFrom_95_48_7 1000000 hf
theorem c_Table_copyFrom_48_7 {σ : xSt} {r : xSt} (hf : f_Table_copyFrom 48 7 σ = some r) : Call (0 + 1) 83 [vR 48, vR 7] σ (tV r).1 (tV r).2 := by
  unfold f_Table_copyFrom at hf
  refine call_of (own := 8) (rk := 0) (cd := kX8_copyFrom) (ls := [some (vR 48), some (vR 7), none]) (rT := tV) rfl rfl rfl rfl rfl ?_
  refine run_seg (k := 4) (s' := (8, [some (vR 48), some (vR 7), none], [], upS σ 48 0 (σ 7 0))) rfl ?_
  refine run_let (fun σ1 => (8, [some (vR 48), some (vR 7), none], [], σ1)) hf (fun σ1 hf => ?_)
  refine run_seg (k := 4) (s' := (16, [some (vR 48), some (vR 7), none], [], upS σ1 48 1 (σ1 7 1))) rfl ?_
  refine run_let (fun σ2 => (16, [some (vR 48), some (vR 7), none], [], σ2)) hf (fun σ2 hf => ?_)
  refine run_seg (k := 4) (s' := (24, [some (vR 48), some (vR 7), none], [], upS σ2 48 2 (σ2 7 2))) rfl ?_
  refine run_let (fun σ3 => (24, [some (vR 48), some (vR 7), none], [], σ3)) hf (fun σ3 hf => ?_)
  refine run_seg (k := 4) (s' := (32, [some (vR 48), some (vR 7), none], [], upS σ3 48 3 (σ3 7 3))) rfl ?_
  refine run_let (fun σ4 => (32, [some (vR 48), some (vR 7), none], [], σ4)) hf (fun σ4 hf => ?_)
  refine run_seg (k := 2) (s' := (34, [some (vR 48), some (vR 7), some (vI 0)], [], σ4)) rfl ?_
  exact r_Table_copyFrom_34_48_7 1000000 hf
theorem r_Table_copyFrom_121_68_7 : ∀ (n : Nat) {l2 : Int} {σ : xSt} {r : xSt}, f_Table_copyFrom_121 68 7 n l2 σ = some r → Run 0 8 0 kX8_copyFrom (121, [some (vR 68), some (vR 7), some (vI l2)], [], σ) (tV r) := by
  intro n
  induction n with
  | zero =>
    intro _ _ _ h
    exact nomatch (show (none : Option (xSt)) = some _ from h)
  | succ n ih =>
    intro l2 σ r hf
    unfold f_Table_copyFrom_121 at hf
    refine run_seg (k := 3) (s' := (if l2 < 6 then (127, [some (vR 68), some (vR 7), some (vI l2)], [], σ) else (169, [some (vR 68), some (vR 7), some (vI l2)], [], σ))) rfl ?_
    refine run_ite hf (fun _ hf => ?_) (fun _ hf => ?_)
    · refine run_seg (k := 6) (s' := (137, [some (vR 68), some (vR 7), some (vI l2)], [vI l2, vR 13, vI l2, vR 74], σ)) rfl ?_
      refine run_guard (s' := (138, [some (vR 68), some (vR 7), some (vI l2)], [vI (σ 13 l2.toNat), vI l2, vR 74], σ)) hf rfl (fun hf => ?_)
      refine run_guard (s' := (139, [some (vR 68), some (vR 7), some (vI l2)], [], upS σ 74 l2.toNat (σ 13 l2.toNat))) hf rfl (fun hf => ?_)
      refine run_let (fun σ12 => (139, [some (vR 68), some (vR 7), some (vI l2)], [], σ12)) hf (fun σ12 hf => ?_)
      refine run_seg (k := 6) (s' := (149, [some (vR 68), some (vR 7), some (vI l2)], [vI l2, vR 14, vI l2, vR 75], σ12)) rfl ?_
      refine run_guard (s' := (150, [some (vR 68), some (vR 7), some (vI l2)], [vI (σ12 14 l2.toNat), vI l2, vR 75], σ12)) hf rfl (fun hf => ?_)
      refine run_guard (s' := (151, [some (vR 68), some (vR 7), some (vI l2)], [], upS σ12 75 l2.toNat (σ12 14 l2.toNat))) hf rfl (fun hf => ?_)
      refine run_let (fun σ13 => (151, [some (vR 68), some (vR 7), some (vI l2)], [], σ13)) hf (fun σ13 hf => ?_)
      refine run_seg (k := 6) (s' := (161, [some (vR 68), some (vR 7), some (vI l2)], [vI l2, vR 15, vI l2, vR 76], σ13)) rfl ?_
      refine run_guard (s' := (162, [some (vR 68), some (vR 7), some (vI l2)], [vI (σ13 15 l2.toNat), vI l2, vR 76], σ13)) hf rfl (fun hf => ?_)
      refine run_guard (s' := (163, [some (vR 68), some (vR 7), some (vI l2)], [], upS σ13 76 l2.toNat (σ13 15 l2.toNat))) hf rfl (fun hf => ?_)
      refine run_let (fun σ14 => (163, [some (vR 68), some (vR 7), some (vI l2)], [], σ14)) hf (fun σ14 hf => ?_)
      refine run_seg (k := 1) (s' := (166, [some (vR 68), some (vR 7), some (vI (w32 (l2 + 1)))], [], σ14)) rfl ?_
      refine run_let (fun x15 => (166, [some (vR 68), some (vR 7), some (vI x15)], [], σ14)) hf (fun x15 hf => ?_)
      refine run_seg (k := 1) (s' := (121, [some (vR 68), some (vR 7), some (vI x15)], [], σ14)) rfl ?_
      exact ih hf
    · exact run_ret hf rfl
theorem r_Table_copyFrom_95_68_7 : ∀ (n : Nat) {l2 : Int} {σ : xSt} {r : xSt}, f_Table_copyFrom_95 68 7 n l2 σ = some r → Run 0 8 0 kX8_copyFrom (95, [some (vR 68), some (vR 7), some (vI l2)], [], σ) (tV r) := by
  intro n
  induction n with
  | zero =>
    intro _ _ _ h
    exact nomatch (show (none : Option (xSt)) = some _ from h)
  | succ n ih =>
    intro l2 σ r hf
    unfold f_Table_copyFrom_95 at hf
    refine run_seg (k := 3) (s' := (if l2 < 18 then (101, [some (vR 68), some (vR 7), some (vI l2)], [], σ) else (119, [some (vR 68), some (vR 7), some (vI l2)], [], σ))) rfl ?_
    refine run_ite hf (fun _ hf => ?_) (fun _ hf => ?_)
    · refine run_seg (k := 6) (s' := (111, [some (vR 68), some (vR 7), some (vI l2)], [vI l2, vR 12, vI l2, vR 73], σ)) rfl ?_
      refine run_guard (s' := (112, [some (vR 68), some (vR 7), some (vI l2)], [vI (σ 12 l2.toNat), vI l2, vR 73], σ)) hf rfl (fun hf => ?_)
      refine run_guard (s' := (113, [some (vR 68), some (vR 7), some (vI l2)], [], upS σ 73 l2.toNat (σ 12 l2.toNat))) hf rfl (fun hf => ?_)
      refine run_let (fun σ10 => (113, [some (vR 68), some (vR 7), some (vI l2)], [], σ10)) hf (fun σ10 hf => ?_)
      refine run_seg (k := 1) (s' := (116, [some (vR 68), some (vR 7), some (vI (w32 (l2 + 1)))], [], σ10)) rfl ?_
      refine run_let (fun x11 => (116, [some (vR 68), some (vR 7), some (vI x11)], [], σ10)) hf (fun x11 hf => ?_)
      refine run_seg (k := 1) (s' := (95, [some (vR 68), some (vR 7), some (vI x11)], [], σ10)) rfl ?_
      exact ih hf
    · refine run_seg (k := 2) (s' := (121, [some (vR 68), some (vR 7), some (vI 0)], [], σ)) rfl ?_
      exact r_Table_copyFrom_121_68_7 1000000 hf
theorem r_Table_copyFrom_34_68_7 : ∀ (n : Nat) {l2 : Int} {σ : xSt} {r : xSt}, f_Table_copyFrom_34 68 7 n l2 σ = some r → Run 0 8 0 kX8_copyFrom (34, [some (vR 68), some (vR 7), some (vI l2)], [], σ) (tV r) := by
  intro n
  induction n with
  | zero =>
    intro _ _ _ h
    exact nomatch (show (none : Option (xSt)) = some _ from h)
  | succ n ih =>
    intro l2 σ r hf
    unfold f_Table_copyFrom_34 at hf
    refine run_seg (k := 3) (s' := (if l2 < 3 then (39, [some (vR 68), some (vR 7), some (vI l2)], [], σ) else (93, [some (vR 68), some (vR 7), some (vI l2)], [], σ))) rfl ?_
    refine run_ite hf (fun _ hf => ?_) (fun _ hf => ?_)
    · refine run_seg (k := 6) (s' := (49, [some (vR 68), some (vR 7), some (vI l2)], [vI l2, vR 8, vI l2, vR 69], σ)) rfl ?_
      refine run_guard (s' := (50, [some (vR 68), some (vR 7), some (vI l2)], [vI (σ 8 l2.toNat), vI l2, vR 69], σ)) hf rfl (fun hf => ?_)
      refine run_guard (s' := (51, [some (vR 68), some (vR 7), some (vI l2)], [], upS σ 69 l2.toNat (σ 8 l2.toNat))) hf rfl (fun hf => ?_)
      refine run_let (fun σ5 => (51, [some (vR 68), some (vR 7), some (vI l2)], [], σ5)) hf (fun σ5 hf => ?_)
      refine run_seg (k := 6) (s' := (61, [some (vR 68), some (vR 7), some (vI l2)], [vI l2, vR 9, vI l2, vR 70], σ5)) rfl ?_
      refine run_guard (s' := (62, [some (vR 68), some (vR 7), some (vI l2)], [vI (σ5 9 l2.toNat), vI l2, vR 70], σ5)) hf rfl (fun hf => ?_)
      refine run_guard (s' := (63, [some (vR 68), some (vR 7), some (vI l2)], [], upS σ5 70 l2.toNat (xnb (σ5 9 l2.toNat)))) hf rfl (fun hf => ?_)
      refine run_let (fun σ6 => (63, [some (vR 68), some (vR 7), some (vI l2)], [], σ6)) hf (fun σ6 hf => ?_)
      refine run_seg (k := 6) (s' := (73, [some (vR 68), some (vR 7), some (vI l2)], [vI l2, vR 10, vI l2, vR 71], σ6)) rfl ?_
      refine run_guard (s' := (74, [some (vR 68), some (vR 7), some (vI l2)], [vI (σ6 10 l2.toNat), vI l2, vR 71], σ6)) hf rfl (fun hf => ?_)
      refine run_guard (s' := (75, [some (vR 68), some (vR 7), some (vI l2)], [], upS σ6 71 l2.toNat (σ6 10 l2.toNat))) hf rfl (fun hf => ?_)
      refine run_let (fun σ7 => (75, [some (vR 68), some (vR 7), some (vI l2)], [], σ7)) hf (fun σ7 hf => ?_)
      refine run_seg (k := 6) (s' := (85, [some (vR 68), some (vR 7), some (vI l2)], [vI l2, vR 11, vI l2, vR 72], σ7)) rfl ?_
      refine run_guard (s' := (86, [some (vR 68), some (vR 7), some (vI l2)], [vI (σ7 11 l2.toNat), vI l2, vR 72], σ7)) hf rfl (fun hf => ?_)
      refine run_guard (s' := (87, [some (vR 68), some (vR 7), some (vI l2)], [], upS σ7 72 l2.toNat (σ7 11 l2.toNat))) hf rfl (fun hf => ?_)
      refine run_let (fun σ8 => (87, [some (vR 68), some (vR 7), some (vI l2)], [], σ8)) hf (fun σ8 hf => ?_)
      refine run_seg (k := 1) (s' := (90, [some (vR 68), some (vR 7), some (vI (w32 (l2 + 1)))], [], σ8)) rfl ?_
      refine run_let (fun x9 => (90, [some (vR 68), some (vR 7), some (vI x9)], [], σ8)) hf (fun x9 hf => ?_)
      refine run_seg (k := 1) (s' := (34, [some (vR 68), some (vR 7), some (vI x9)], [], σ8)) rfl ?_
      exact ih hf
    · refine run_seg (k := 2) (s' := (95, [some (vR 68), some (vR 7), some (vI 0)], [], σ)) rfl ?_
      exact r_Table_copyFrom_95_68_7 1000000 hf
theorem c_Table_copyFrom_68_7 {σ : xSt} {r : xSt} (hf : f_Table_copyFrom 68 7 σ = some r) : Call (0 + 1) 83 [vR 68, vR 7] σ (tV r).1 (tV r).2 := by
  unfold f_Table_copyFrom at hf
  refine call_of (own := 8) (rk := 0) (cd := kX8_copyFrom) (ls := [some (vR 68), some (vR 7), none]) (rT := tV) rfl rfl rfl rfl rfl ?_
  refine run_seg (k := 4) (s' := (8, [some (vR 68), some (vR 7), none], [], upS σ 68 0 (σ 7 0))) rfl ?_
  refine run_let (fun σ1 => (8, [some (vR 68), some (vR 7), none], [], σ1)) hf (fun σ1 hf => ?_)
  refine run_seg (k := 4) (s' := (16, [some (vR 68), some (vR 7), none], [], upS σ1 68 1 (σ1 7 1))) rfl ?_
  refine run_let (fun σ2 => (16, [some (vR 68), some (vR 7), none], [], σ2)) hf (fun σ2 hf => ?_)
  refine run_seg (k := 4) (s' := (24, [some (vR 68), some (vR 7), none], [], upS σ2 68 2 (σ2 7 2))) rfl ?_
  refine run_let (fun σ3 => (24, [some (vR 68), some (vR 7), none], [], σ3)) hf (fun σ3 hf => ?_)
  refine run_seg (k := 4) (s' := (32, [some (vR 68), some (vR 7), none], [], upS σ3 68 3 (σ3 7 3))) rfl ?_
  refine run_let (fun σ4 => (32, [some (vR 68), some (vR 7), none], [], σ4)) hf (fun σ4 hf => ?_)
  refine run_seg (k := 2) (s' := (34, [some (vR 68), some (vR 7), some (vI 0)], [], σ4)) rfl ?_
  exact r_Table_copyFrom_34_68_7 1000000 hf
/-- BentPenny$Way.clear()V -/
def f_Way_clear (a0 : Nat) (σ : xSt) : Option (xSt) :=
  xlet (upS σ a0 0 0) fun σ1 =>
  xlet (upS σ1 a0 1 0) fun σ2 =>
  some σ2
theorem c_Way_clear_16 {σ : xSt} {r : xSt} (hf : f_Way_clear 16 σ = some r) : Call (0 + 1) 127 [vR 16] σ (tV r).1 (tV r).2 := by
  unfold f_Way_clear at hf
  refine call_of (own := 10) (rk := 0) (cd := kX10_clear) (ls := [some (vR 16)]) (rT := tV) rfl rfl rfl rfl rfl ?_
  refine run_seg (k := 3) (s' := (5, [some (vR 16)], [], upS σ 16 0 0)) rfl ?_
  refine run_let (fun σ1 => (5, [some (vR 16)], [], σ1)) hf (fun σ1 hf => ?_)
  refine run_seg (k := 3) (s' := (10, [some (vR 16)], [], upS σ1 16 1 0)) rfl ?_
  refine run_let (fun σ2 => (10, [some (vR 16)], [], σ2)) hf (fun σ2 hf => ?_)
  exact run_ret hf rfl
theorem c_Way_clear_36 {σ : xSt} {r : xSt} (hf : f_Way_clear 36 σ = some r) : Call (0 + 1) 127 [vR 36] σ (tV r).1 (tV r).2 := by
  unfold f_Way_clear at hf
  refine call_of (own := 10) (rk := 0) (cd := kX10_clear) (ls := [some (vR 36)]) (rT := tV) rfl rfl rfl rfl rfl ?_
  refine run_seg (k := 3) (s' := (5, [some (vR 36)], [], upS σ 36 0 0)) rfl ?_
  refine run_let (fun σ1 => (5, [some (vR 36)], [], σ1)) hf (fun σ1 hf => ?_)
  refine run_seg (k := 3) (s' := (10, [some (vR 36)], [], upS σ1 36 1 0)) rfl ?_
  refine run_let (fun σ2 => (10, [some (vR 36)], [], σ2)) hf (fun σ2 hf => ?_)
  exact run_ret hf rfl
/-- BentPenny$Sentence.clear()V -/
def f_Sentence_clear (a0 : Nat) (σ : xSt) : Option (xSt) :=
  xlet (upS σ a0 0 0) fun σ1 =>
  xlet (upS σ1 a0 1 0) fun σ2 =>
  some σ2
theorem c_Sentence_clear_22 {σ : xSt} {r : xSt} (hf : f_Sentence_clear 22 σ = some r) : Call (0 + 1) 58 [vR 22] σ (tV r).1 (tV r).2 := by
  unfold f_Sentence_clear at hf
  refine call_of (own := 5) (rk := 0) (cd := kX5_clear) (ls := [some (vR 22)]) (rT := tV) rfl rfl rfl rfl rfl ?_
  refine run_seg (k := 3) (s' := (5, [some (vR 22)], [], upS σ 22 0 0)) rfl ?_
  refine run_let (fun σ1 => (5, [some (vR 22)], [], σ1)) hf (fun σ1 hf => ?_)
  refine run_seg (k := 3) (s' := (10, [some (vR 22)], [], upS σ1 22 1 0)) rfl ?_
  refine run_let (fun σ2 => (10, [some (vR 22)], [], σ2)) hf (fun σ2 hf => ?_)
  exact run_ret hf rfl
theorem c_Sentence_clear_42 {σ : xSt} {r : xSt} (hf : f_Sentence_clear 42 σ = some r) : Call (0 + 1) 58 [vR 42] σ (tV r).1 (tV r).2 := by
  unfold f_Sentence_clear at hf
  refine call_of (own := 5) (rk := 0) (cd := kX5_clear) (ls := [some (vR 42)]) (rT := tV) rfl rfl rfl rfl rfl ?_
  refine run_seg (k := 3) (s' := (5, [some (vR 42)], [], upS σ 42 0 0)) rfl ?_
  refine run_let (fun σ1 => (5, [some (vR 42)], [], σ1)) hf (fun σ1 hf => ?_)
  refine run_seg (k := 3) (s' := (10, [some (vR 42)], [], upS σ1 42 1 0)) rfl ?_
  refine run_let (fun σ2 => (10, [some (vR 42)], [], σ2)) hf (fun σ2 hf => ?_)
  exact run_ret hf rfl
/-- BentPenny.table()I -/
def f_X_table (σ : xSt) : Option (Int × xSt) :=
  xbW (f_X_takeTape σ) fun r1 σ2 =>
  xbR (f_Tokens_begin r1 500 σ2) fun σ3 =>
  xbW (f_Table_read σ3) fun r4 σ5 =>
  xlet (upS σ5 0 3 (σ5 2 9)) fun σ6 =>
  if r4 = 0 then (some (w32 ((-1) - (σ6 2 10)), σ6))
  else (xlet (upS σ6 0 7 (w32 ((σ6 0 7) + 1))) fun σ7 =>
  xlet (upS σ7 27 0 (σ7 0 7)) fun σ8 =>
  xbR (f_Table_copyFrom 7 27 σ8) fun σ9 =>
  xbR (f_Way_clear 16 σ9) fun σ10 =>
  xbR (f_Sentence_clear 22 σ10) fun σ11 =>
  some (w32 ((σ11 7 1) + (σ11 7 2)), σ11))
theorem c_X_table {σ : xSt} {r : Int × xSt} (hf : f_X_table σ = some r) : Call (6 + 1) 154 [vR 0] σ (tIW r).1 (tIW r).2 := by
  unfold f_X_table at hf
  refine call_of (own := 11) (rk := 1) (cd := kX11_table) (ls := [some (vR 0), none]) (rT := tIW) rfl rfl rfl rfl rfl ?_
  refine run_seg (k := 3) (s' := (5, [some (vR 0), none], [vR 0, vR 2], σ)) rfl ?_
  refine run_callW (w := fun a => some (vI a)) (m := 152) (as := [vR 0]) (pc := 8) (ls := [some (vR 0), none]) (st' := [vR 2]) (σ := σ) hf rfl (fun _ _ h => (c_X_takeTape h).mono (by decide)) (fun r1 σ2 hf => ?_)
  refine run_seg (k := 1) (s' := (11, [some (vR 0), none], [vI 500, vI r1, vR 2], σ2)) rfl ?_
  refine run_callV (m := 107) (as := [vR 2, vI r1, vI 500]) (pc := 14) (ls := [some (vR 0), none]) (st' := []) (σ := σ2) hf rfl (fun _ h => (c_Tokens_begin h).mono (by decide)) (fun σ3 hf => ?_)
  refine run_seg (k := 5) (s' := (25, [some (vR 0), none], [vR 2, vR 27], σ3)) rfl ?_
  refine run_callW (w := fun a => some (vI a)) (m := 99) (as := [vR 27, vR 2]) (pc := 28) (ls := [some (vR 0), none]) (st' := []) (σ := σ3) hf rfl (fun _ _ h => (c_Table_read h).mono (by decide)) (fun r4 σ5 hf => ?_)
  refine run_seg (k := 6) (s' := (40, [some (vR 0), some (vI r4)], [], upS σ5 0 3 (σ5 2 9))) rfl ?_
  refine run_let (fun σ6 => (40, [some (vR 0), some (vI r4)], [], σ6)) hf (fun σ6 hf => ?_)
  refine run_seg (k := 2) (s' := (if r4 = 0 then (44, [some (vR 0), some (vI r4)], [], σ6) else (54, [some (vR 0), some (vI r4)], [], σ6))) rfl ?_
  refine run_ite hf (fun _ hf => ?_) (fun _ hf => ?_)
  · refine run_seg (k := 5) (s' := (53, [some (vR 0), some (vI r4)], [vI (w32 ((-1) - (σ6 2 10)))], σ6)) rfl ?_
    exact run_ret hf rfl
  · refine run_seg (k := 6) (s' := (64, [some (vR 0), some (vI r4)], [], upS σ6 0 7 (w32 ((σ6 0 7) + 1)))) rfl ?_
    refine run_let (fun σ7 => (64, [some (vR 0), some (vI r4)], [], σ7)) hf (fun σ7 hf => ?_)
    refine run_seg (k := 6) (s' := (78, [some (vR 0), some (vI r4)], [], upS σ7 27 0 (σ7 0 7))) rfl ?_
    refine run_let (fun σ8 => (78, [some (vR 0), some (vI r4)], [], σ8)) hf (fun σ8 hf => ?_)
    refine run_seg (k := 6) (s' := (92, [some (vR 0), some (vI r4)], [vR 27, vR 7], σ8)) rfl ?_
    refine run_callV (m := 83) (as := [vR 7, vR 27]) (pc := 95) (ls := [some (vR 0), some (vI r4)]) (st' := []) (σ := σ8) hf rfl (fun _ h => (c_Table_copyFrom_7_27 h).mono (by decide)) (fun σ9 hf => ?_)
    refine run_seg (k := 3) (s' := (102, [some (vR 0), some (vI r4)], [vR 16], σ9)) rfl ?_
    refine run_callV (m := 127) (as := [vR 16]) (pc := 105) (ls := [some (vR 0), some (vI r4)]) (st' := []) (σ := σ9) hf rfl (fun _ h => (c_Way_clear_16 h).mono (by decide)) (fun σ10 hf => ?_)
    refine run_seg (k := 3) (s' := (112, [some (vR 0), some (vI r4)], [vR 22], σ10)) rfl ?_
    refine run_callV (m := 58) (as := [vR 22]) (pc := 115) (ls := [some (vR 0), some (vI r4)]) (st' := []) (σ := σ10) hf rfl (fun _ h => (c_Sentence_clear_22 h).mono (by decide)) (fun σ11 hf => ?_)
    refine run_seg (k := 9) (s' := (136, [some (vR 0), some (vI r4)], [vI (w32 ((σ11 7 1) + (σ11 7 2)))], σ11)) rfl ?_
    exact run_ret hf rfl
/-- BentPenny.fault()I -/
def f_X_fault (σ : xSt) : Option (Int) :=
  some (σ 0 3)
theorem c_X_fault {σ : xSt} {r : Int} (hf : f_X_fault σ = some r) : Call (0 + 1) 155 [vR 0] σ ((tI σ) r).1 ((tI σ) r).2 := by
  unfold f_X_fault at hf
  refine call_of (own := 11) (rk := 1) (cd := kX11_fault) (ls := [some (vR 0)]) (rT := (tI σ)) rfl rfl rfl rfl rfl ?_
  refine run_seg (k := 2) (s' := (4, [some (vR 0)], [vI (σ 0 3)], σ)) rfl ?_
  exact run_ret hf rfl
/-- BentPenny$Table.hasThing(I)Z -/
def f_Table_hasThing (p1 : Int) (σ : xSt) : Option (Int) :=
  if p1 < 0 then (some 0)
  else (if p1 < σ 7 1 then (if p1 < 3 then (some 1)
  else (some 0))
  else (some 0))
theorem c_Table_hasThing {p1 : Int} {σ : xSt} {r : Int} (hf : f_Table_hasThing p1 σ = some r) : Call (0 + 1) 84 [vR 7, vI p1] σ ((tI σ) r).1 ((tI σ) r).2 := by
  unfold f_Table_hasThing at hf
  refine call_of (own := 8) (rk := 2) (cd := kX8_hasThing) (ls := [some (vR 7), some (vI p1)]) (rT := (tI σ)) rfl rfl rfl rfl rfl ?_
  refine run_seg (k := 2) (s' := (if p1 < 0 then (21, [some (vR 7), some (vI p1)], [], σ) else (4, [some (vR 7), some (vI p1)], [], σ))) rfl ?_
  refine run_ite hf (fun _ hf => ?_) (fun _ hf => ?_)
  · refine run_seg (k := 1) (s' := (22, [some (vR 7), some (vI p1)], [vI 0], σ)) rfl ?_
    exact run_ret hf rfl
  · refine run_seg (k := 4) (s' := (if p1 < σ 7 1 then (12, [some (vR 7), some (vI p1)], [], σ) else (21, [some (vR 7), some (vI p1)], [], σ))) rfl ?_
    refine run_ite hf (fun _ hf => ?_) (fun _ hf => ?_)
    · refine run_seg (k := 3) (s' := (if p1 < 3 then (17, [some (vR 7), some (vI p1)], [], σ) else (21, [some (vR 7), some (vI p1)], [], σ))) rfl ?_
      refine run_ite hf (fun _ hf => ?_) (fun _ hf => ?_)
      · refine run_seg (k := 2) (s' := (22, [some (vR 7), some (vI p1)], [vI 1], σ)) rfl ?_
        exact run_ret hf rfl
      · refine run_seg (k := 1) (s' := (22, [some (vR 7), some (vI p1)], [vI 0], σ)) rfl ?_
        exact run_ret hf rfl
    · refine run_seg (k := 1) (s' := (22, [some (vR 7), some (vI p1)], [vI 0], σ)) rfl ?_
      exact run_ret hf rfl
/-- BentPenny$Table.sidesOf(I)I -/
def f_Table_sidesOf (p1 : Int) (σ : xSt) : Option (Int) :=
  xbR (f_Table_hasThing p1 σ) fun r1 =>
  if r1 = 0 then (some 0)
  else (if 0 ≤ p1 ∧ p1 < 3 then (
  some (σ 10 p1.toNat)) else none)
theorem c_Table_sidesOf {p1 : Int} {σ : xSt} {r : Int} (hf : f_Table_sidesOf p1 σ = some r) : Call (1 + 1) 89 [vR 7, vI p1] σ ((tI σ) r).1 ((tI σ) r).2 := by
  unfold f_Table_sidesOf at hf
  refine call_of (own := 8) (rk := 1) (cd := kX8_sidesOf) (ls := [some (vR 7), some (vI p1)]) (rT := (tI σ)) rfl rfl rfl rfl rfl ?_
  refine run_seg (k := 2) (s' := (2, [some (vR 7), some (vI p1)], [vI p1, vR 7], σ)) rfl ?_
  refine run_callN (w := fun a => some (vI a)) (m := 84) (as := [vR 7, vI p1]) (pc := 5) (ls := [some (vR 7), some (vI p1)]) (st' := []) (σ := σ) hf rfl (fun _ h => (c_Table_hasThing h).mono (by decide)) (fun r1 hf => ?_)
  refine run_seg (k := 1) (s' := (if r1 = 0 then (17, [some (vR 7), some (vI p1)], [], σ) else (8, [some (vR 7), some (vI p1)], [], σ))) rfl ?_
  refine run_ite hf (fun _ hf => ?_) (fun _ hf => ?_)
  · refine run_seg (k := 1) (s' := (18, [some (vR 7), some (vI p1)], [vI 0], σ)) rfl ?_
    exact run_ret hf rfl
  · refine run_seg (k := 3) (s' := (13, [some (vR 7), some (vI p1)], [vI p1, vR 10], σ)) rfl ?_
    refine run_guard (s' := (14, [some (vR 7), some (vI p1)], [vI (σ 10 p1.toNat)], σ)) hf rfl (fun hf => ?_)
    refine run_seg (k := 1) (s' := (18, [some (vR 7), some (vI p1)], [vI (σ 10 p1.toNat)], σ)) rfl ?_
    exact run_ret hf rfl
/-- BentPenny$Table.allParts(I)I -/
def f_Table_allParts (p1 : Int) (σ : xSt) : Option (Int) :=
  xbR (f_Table_hasThing p1 σ) fun r1 =>
  if r1 = 0 then (some 0)
  else (if 0 ≤ p1 ∧ p1 < 3 then (
  some (σ 11 p1.toNat)) else none)
theorem c_Table_allParts {p1 : Int} {σ : xSt} {r : Int} (hf : f_Table_allParts p1 σ = some r) : Call (1 + 1) 90 [vR 7, vI p1] σ ((tI σ) r).1 ((tI σ) r).2 := by
  unfold f_Table_allParts at hf
  refine call_of (own := 8) (rk := 1) (cd := kX8_allParts) (ls := [some (vR 7), some (vI p1)]) (rT := (tI σ)) rfl rfl rfl rfl rfl ?_
  refine run_seg (k := 2) (s' := (2, [some (vR 7), some (vI p1)], [vI p1, vR 7], σ)) rfl ?_
  refine run_callN (w := fun a => some (vI a)) (m := 84) (as := [vR 7, vI p1]) (pc := 5) (ls := [some (vR 7), some (vI p1)]) (st' := []) (σ := σ) hf rfl (fun _ h => (c_Table_hasThing h).mono (by decide)) (fun r1 hf => ?_)
  refine run_seg (k := 1) (s' := (if r1 = 0 then (17, [some (vR 7), some (vI p1)], [], σ) else (8, [some (vR 7), some (vI p1)], [], σ))) rfl ?_
  refine run_ite hf (fun _ hf => ?_) (fun _ hf => ?_)
  · refine run_seg (k := 1) (s' := (18, [some (vR 7), some (vI p1)], [vI 0], σ)) rfl ?_
    exact run_ret hf rfl
  · refine run_seg (k := 3) (s' := (13, [some (vR 7), some (vI p1)], [vI p1, vR 11], σ)) rfl ?_
    refine run_guard (s' := (14, [some (vR 7), some (vI p1)], [vI (σ 11 p1.toNat)], σ)) hf rfl (fun hf => ?_)
    refine run_seg (k := 1) (s' := (18, [some (vR 7), some (vI p1)], [vI (σ 11 p1.toNat)], σ)) rfl ?_
    exact run_ret hf rfl
/-- BentPenny.thing(II)I -/
def f_X_thing (p1 : Int) (p2 : Int) (σ : xSt) : Option (Option Int × xSt) :=
  xbR (f_Table_hasThing p1 σ) fun r1 =>
  if r1 = 0 then (some (none, σ))
  else (xbR (f_X_isWithin p2 3 σ) fun r2 =>
  if r2 = 0 then (some (none, σ))
  else (if p2 = 0 then (xbR (f_Table_sidesOf p1 σ) fun r3 =>
  some (some r3, σ))
  else (if p2 = 1 then (xbR (f_Table_allParts p1 σ) fun r4 =>
  some (some r4, σ))
  else (if p1 = σ 7 3 then (some (some 1, σ))
  else (some (some 0, σ))))))
theorem c_X_thing {p1 : Int} {p2 : Int} {σ : xSt} {r : Option Int × xSt} (hf : f_X_thing p1 p2 σ = some r) : Call (2 + 1) 156 [vR 0, vI p1, vI p2] σ (tXI r).1 (tXI r).2 := by
  unfold f_X_thing at hf
  refine call_of (own := 11) (rk := 1) (cd := kX11_thing) (ls := [some (vR 0), some (vI p1), some (vI p2)]) (rT := tXI) rfl rfl rfl rfl rfl ?_
  refine run_seg (k := 4) (s' := (8, [some (vR 0), some (vI p1), some (vI p2)], [vI p1, vR 7], σ)) rfl ?_
  refine run_callN (w := fun a => some (vI a)) (m := 84) (as := [vR 7, vI p1]) (pc := 11) (ls := [some (vR 0), some (vI p1), some (vI p2)]) (st' := []) (σ := σ) hf rfl (fun _ h => (c_Table_hasThing h).mono (by decide)) (fun r1 hf => ?_)
  refine run_seg (k := 1) (s' := (if r1 = 0 then (22, [some (vR 0), some (vI p1), some (vI p2)], [], σ) else (14, [some (vR 0), some (vI p1), some (vI p2)], [], σ))) rfl ?_
  refine run_ite hf (fun _ hf => ?_) (fun _ hf => ?_)
  · exact run_ret hf rfl
  · refine run_seg (k := 2) (s' := (16, [some (vR 0), some (vI p1), some (vI p2)], [vI 3, vI p2], σ)) rfl ?_
    refine run_callN (w := fun a => some (vI a)) (m := 207) (as := [vI p2, vI 3]) (pc := 19) (ls := [some (vR 0), some (vI p1), some (vI p2)]) (st' := []) (σ := σ) hf rfl (fun _ h => (c_X_isWithin h).mono (by decide)) (fun r2 hf => ?_)
    refine run_seg (k := 1) (s' := (if r2 = 0 then (22, [some (vR 0), some (vI p1), some (vI p2)], [], σ) else (30, [some (vR 0), some (vI p1), some (vI p2)], [], σ))) rfl ?_
    refine run_ite hf (fun _ hf => ?_) (fun _ hf => ?_)
    · exact run_ret hf rfl
    · refine run_seg (k := 2) (s' := (if p2 = 0 then (34, [some (vR 0), some (vI p1), some (vI p2)], [], σ) else (46, [some (vR 0), some (vI p1), some (vI p2)], [], σ))) rfl ?_
      refine run_ite hf (fun _ hf => ?_) (fun _ hf => ?_)
      · refine run_seg (k := 4) (s' := (42, [some (vR 0), some (vI p1), some (vI p2)], [vI p1, vR 7], σ)) rfl ?_
        refine run_callN (w := fun a => some (vI a)) (m := 89) (as := [vR 7, vI p1]) (pc := 45) (ls := [some (vR 0), some (vI p1), some (vI p2)]) (st' := []) (σ := σ) hf rfl (fun _ h => (c_Table_sidesOf h).mono (by decide)) (fun r3 hf => ?_)
        exact run_ret hf rfl
      · refine run_seg (k := 3) (s' := (if p2 = 1 then (51, [some (vR 0), some (vI p1), some (vI p2)], [], σ) else (63, [some (vR 0), some (vI p1), some (vI p2)], [], σ))) rfl ?_
        refine run_ite hf (fun _ hf => ?_) (fun _ hf => ?_)
        · refine run_seg (k := 4) (s' := (59, [some (vR 0), some (vI p1), some (vI p2)], [vI p1, vR 7], σ)) rfl ?_
          refine run_callN (w := fun a => some (vI a)) (m := 90) (as := [vR 7, vI p1]) (pc := 62) (ls := [some (vR 0), some (vI p1), some (vI p2)]) (st' := []) (σ := σ) hf rfl (fun _ h => (c_Table_allParts h).mono (by decide)) (fun r4 hf => ?_)
          exact run_ret hf rfl
        · refine run_seg (k := 6) (s' := (if p1 = σ 7 3 then (77, [some (vR 0), some (vI p1), some (vI p2)], [], σ) else (81, [some (vR 0), some (vI p1), some (vI p2)], [], σ))) rfl ?_
          refine run_ite hf (fun _ hf => ?_) (fun _ hf => ?_)
          · refine run_seg (k := 2) (s' := (82, [some (vR 0), some (vI p1), some (vI p2)], [vI 1], σ)) rfl ?_
            exact run_ret hf rfl
          · refine run_seg (k := 1) (s' := (82, [some (vR 0), some (vI p1), some (vI p2)], [vI 0], σ)) rfl ?_
            exact run_ret hf rfl
/-- BentPenny$Table.partsOf(II)I -/
def f_Table_partsOf (p1 : Int) (p2 : Int) (σ : xSt) : Option (Int) :=
  xbR (f_Table_hasThing p1 σ) fun r1 =>
  if r1 = 0 then (some 0)
  else (xbR (f_X_isWithin p2 6 σ) fun r2 =>
  if r2 = 0 then (some 0)
  else (if 0 ≤ w32 ((w32 (p1 * 6)) + p2) ∧ w32 ((w32 (p1 * 6)) + p2) < 18 then (
  some (σ 12 (w32 ((w32 (p1 * 6)) + p2)).toNat)) else none))
theorem c_Table_partsOf {p1 : Int} {p2 : Int} {σ : xSt} {r : Int} (hf : f_Table_partsOf p1 p2 σ = some r) : Call (1 + 1) 91 [vR 7, vI p1, vI p2] σ ((tI σ) r).1 ((tI σ) r).2 := by
  unfold f_Table_partsOf at hf
  refine call_of (own := 8) (rk := 1) (cd := kX8_partsOf) (ls := [some (vR 7), some (vI p1), some (vI p2)]) (rT := (tI σ)) rfl rfl rfl rfl rfl ?_
  refine run_seg (k := 2) (s' := (2, [some (vR 7), some (vI p1), some (vI p2)], [vI p1, vR 7], σ)) rfl ?_
  refine run_callN (w := fun a => some (vI a)) (m := 84) (as := [vR 7, vI p1]) (pc := 5) (ls := [some (vR 7), some (vI p1), some (vI p2)]) (st' := []) (σ := σ) hf rfl (fun _ h => (c_Table_hasThing h).mono (by decide)) (fun r1 hf => ?_)
  refine run_seg (k := 1) (s' := (if r1 = 0 then (31, [some (vR 7), some (vI p1), some (vI p2)], [], σ) else (8, [some (vR 7), some (vI p1), some (vI p2)], [], σ))) rfl ?_
  refine run_ite hf (fun _ hf => ?_) (fun _ hf => ?_)
  · refine run_seg (k := 1) (s' := (32, [some (vR 7), some (vI p1), some (vI p2)], [vI 0], σ)) rfl ?_
    exact run_ret hf rfl
  · refine run_seg (k := 2) (s' := (11, [some (vR 7), some (vI p1), some (vI p2)], [vI 6, vI p2], σ)) rfl ?_
    refine run_callN (w := fun a => some (vI a)) (m := 207) (as := [vI p2, vI 6]) (pc := 14) (ls := [some (vR 7), some (vI p1), some (vI p2)]) (st' := []) (σ := σ) hf rfl (fun _ h => (c_X_isWithin h).mono (by decide)) (fun r2 hf => ?_)
    refine run_seg (k := 1) (s' := (if r2 = 0 then (31, [some (vR 7), some (vI p1), some (vI p2)], [], σ) else (17, [some (vR 7), some (vI p1), some (vI p2)], [], σ))) rfl ?_
    refine run_ite hf (fun _ hf => ?_) (fun _ hf => ?_)
    · refine run_seg (k := 1) (s' := (32, [some (vR 7), some (vI p1), some (vI p2)], [vI 0], σ)) rfl ?_
      exact run_ret hf rfl
    · refine run_seg (k := 7) (s' := (27, [some (vR 7), some (vI p1), some (vI p2)], [vI (w32 ((w32 (p1 * 6)) + p2)), vR 12], σ)) rfl ?_
      refine run_guard (s' := (28, [some (vR 7), some (vI p1), some (vI p2)], [vI (σ 12 (w32 ((w32 (p1 * 6)) + p2)).toNat)], σ)) hf rfl (fun hf => ?_)
      refine run_seg (k := 1) (s' := (32, [some (vR 7), some (vI p1), some (vI p2)], [vI (σ 12 (w32 ((w32 (p1 * 6)) + p2)).toNat)], σ)) rfl ?_
      exact run_ret hf rfl
/-- BentPenny.side(II)I -/
def f_X_side (p1 : Int) (p2 : Int) (σ : xSt) : Option (Int) :=
  xbR (f_Table_sidesOf p1 σ) fun r1 =>
  xbR (f_X_isWithin p2 r1 σ) fun r2 =>
  if r2 = 0 then (some (-1))
  else (xbR (f_Table_partsOf p1 p2 σ) fun r3 =>
  some r3)
theorem c_X_side {p1 : Int} {p2 : Int} {σ : xSt} {r : Int} (hf : f_X_side p1 p2 σ = some r) : Call (2 + 1) 157 [vR 0, vI p1, vI p2] σ ((tI σ) r).1 ((tI σ) r).2 := by
  unfold f_X_side at hf
  refine call_of (own := 11) (rk := 1) (cd := kX11_side) (ls := [some (vR 0), some (vI p1), some (vI p2)]) (rT := (tI σ)) rfl rfl rfl rfl rfl ?_
  refine run_seg (k := 5) (s' := (9, [some (vR 0), some (vI p1), some (vI p2)], [vI p1, vR 7, vI p2], σ)) rfl ?_
  refine run_callN (w := fun a => some (vI a)) (m := 89) (as := [vR 7, vI p1]) (pc := 12) (ls := [some (vR 0), some (vI p1), some (vI p2)]) (st' := [vI p2]) (σ := σ) hf rfl (fun _ h => (c_Table_sidesOf h).mono (by decide)) (fun r1 hf => ?_)
  refine run_callN (w := fun a => some (vI a)) (m := 207) (as := [vI p2, vI r1]) (pc := 15) (ls := [some (vR 0), some (vI p1), some (vI p2)]) (st' := []) (σ := σ) hf rfl (fun _ h => (c_X_isWithin h).mono (by decide)) (fun r2 hf => ?_)
  refine run_seg (k := 1) (s' := (if r2 = 0 then (33, [some (vR 0), some (vI p1), some (vI p2)], [], σ) else (18, [some (vR 0), some (vI p1), some (vI p2)], [], σ))) rfl ?_
  refine run_ite hf (fun _ hf => ?_) (fun _ hf => ?_)
  · refine run_seg (k := 1) (s' := (34, [some (vR 0), some (vI p1), some (vI p2)], [vI (-1)], σ)) rfl ?_
    exact run_ret hf rfl
  · refine run_seg (k := 5) (s' := (27, [some (vR 0), some (vI p1), some (vI p2)], [vI p2, vI p1, vR 7], σ)) rfl ?_
    refine run_callN (w := fun a => some (vI a)) (m := 91) (as := [vR 7, vI p1, vI p2]) (pc := 30) (ls := [some (vR 0), some (vI p1), some (vI p2)]) (st' := []) (σ := σ) hf rfl (fun _ h => (c_Table_partsOf h).mono (by decide)) (fun r3 hf => ?_)
    refine run_seg (k := 1) (s' := (34, [some (vR 0), some (vI p1), some (vI p2)], [vI r3], σ)) rfl ?_
    exact run_ret hf rfl
/-- BentPenny$Table.hasEnd(I)Z -/
def f_Table_hasEnd (p1 : Int) (σ : xSt) : Option (Int) :=
  if p1 < 0 then (some 0)
  else (if p1 < σ 7 2 then (if p1 < 6 then (some 1)
  else (some 0))
  else (some 0))
theorem c_Table_hasEnd {p1 : Int} {σ : xSt} {r : Int} (hf : f_Table_hasEnd p1 σ = some r) : Call (0 + 1) 85 [vR 7, vI p1] σ ((tI σ) r).1 ((tI σ) r).2 := by
  unfold f_Table_hasEnd at hf
  refine call_of (own := 8) (rk := 2) (cd := kX8_hasEnd) (ls := [some (vR 7), some (vI p1)]) (rT := (tI σ)) rfl rfl rfl rfl rfl ?_
  refine run_seg (k := 2) (s' := (if p1 < 0 then (22, [some (vR 7), some (vI p1)], [], σ) else (4, [some (vR 7), some (vI p1)], [], σ))) rfl ?_
  refine run_ite hf (fun _ hf => ?_) (fun _ hf => ?_)
  · refine run_seg (k := 1) (s' := (23, [some (vR 7), some (vI p1)], [vI 0], σ)) rfl ?_
    exact run_ret hf rfl
  · refine run_seg (k := 4) (s' := (if p1 < σ 7 2 then (12, [some (vR 7), some (vI p1)], [], σ) else (22, [some (vR 7), some (vI p1)], [], σ))) rfl ?_
    refine run_ite hf (fun _ hf => ?_) (fun _ hf => ?_)
    · refine run_seg (k := 3) (s' := (if p1 < 6 then (18, [some (vR 7), some (vI p1)], [], σ) else (22, [some (vR 7), some (vI p1)], [], σ))) rfl ?_
      refine run_ite hf (fun _ hf => ?_) (fun _ hf => ?_)
      · refine run_seg (k := 2) (s' := (23, [some (vR 7), some (vI p1)], [vI 1], σ)) rfl ?_
        exact run_ret hf rfl
      · refine run_seg (k := 1) (s' := (23, [some (vR 7), some (vI p1)], [vI 0], σ)) rfl ?_
        exact run_ret hf rfl
    · refine run_seg (k := 1) (s' := (23, [some (vR 7), some (vI p1)], [vI 0], σ)) rfl ?_
      exact run_ret hf rfl
/-- BentPenny$Table.hasShare(I)Z -/
def f_Table_hasShare (p1 : Int) (σ : xSt) : Option (Int) :=
  xbR (f_Table_hasEnd p1 σ) fun r1 =>
  if r1 = 0 then (some 0)
  else (if 0 ≤ p1 ∧ p1 < 6 then (
  if 0 < σ 15 p1.toNat then (some 1)
  else (some 0)) else none)
theorem c_Table_hasShare {p1 : Int} {σ : xSt} {r : Int} (hf : f_Table_hasShare p1 σ = some r) : Call (1 + 1) 86 [vR 7, vI p1] σ ((tI σ) r).1 ((tI σ) r).2 := by
  unfold f_Table_hasShare at hf
  refine call_of (own := 8) (rk := 2) (cd := kX8_hasShare) (ls := [some (vR 7), some (vI p1)]) (rT := (tI σ)) rfl rfl rfl rfl rfl ?_
  refine run_seg (k := 2) (s' := (2, [some (vR 7), some (vI p1)], [vI p1, vR 7], σ)) rfl ?_
  refine run_callN (w := fun a => some (vI a)) (m := 85) (as := [vR 7, vI p1]) (pc := 5) (ls := [some (vR 7), some (vI p1)]) (st' := []) (σ := σ) hf rfl (fun _ h => (c_Table_hasEnd h).mono (by decide)) (fun r1 hf => ?_)
  refine run_seg (k := 1) (s' := (if r1 = 0 then (21, [some (vR 7), some (vI p1)], [], σ) else (8, [some (vR 7), some (vI p1)], [], σ))) rfl ?_
  refine run_ite hf (fun _ hf => ?_) (fun _ hf => ?_)
  · refine run_seg (k := 1) (s' := (22, [some (vR 7), some (vI p1)], [vI 0], σ)) rfl ?_
    exact run_ret hf rfl
  · refine run_seg (k := 3) (s' := (13, [some (vR 7), some (vI p1)], [vI p1, vR 15], σ)) rfl ?_
    refine run_guard (s' := (14, [some (vR 7), some (vI p1)], [vI (σ 15 p1.toNat)], σ)) hf rfl (fun hf => ?_)
    refine run_seg (k := 1) (s' := (if 0 < σ 15 p1.toNat then (17, [some (vR 7), some (vI p1)], [], σ) else (21, [some (vR 7), some (vI p1)], [], σ))) rfl ?_
    refine run_ite hf (fun _ hf => ?_) (fun _ hf => ?_)
    · refine run_seg (k := 2) (s' := (22, [some (vR 7), some (vI p1)], [vI 1], σ)) rfl ?_
      exact run_ret hf rfl
    · refine run_seg (k := 1) (s' := (22, [some (vR 7), some (vI p1)], [vI 0], σ)) rfl ?_
      exact run_ret hf rfl
/-- BentPenny$Table.shareAbove(I)I -/
def f_Table_shareAbove (p1 : Int) (σ : xSt) : Option (Int) :=
  xbR (f_Table_hasEnd p1 σ) fun r1 =>
  if r1 = 0 then (some 0)
  else (if 0 ≤ p1 ∧ p1 < 6 then (
  some (σ 14 p1.toNat)) else none)
theorem c_Table_shareAbove {p1 : Int} {σ : xSt} {r : Int} (hf : f_Table_shareAbove p1 σ = some r) : Call (1 + 1) 87 [vR 7, vI p1] σ ((tI σ) r).1 ((tI σ) r).2 := by
  unfold f_Table_shareAbove at hf
  refine call_of (own := 8) (rk := 1) (cd := kX8_shareAbove) (ls := [some (vR 7), some (vI p1)]) (rT := (tI σ)) rfl rfl rfl rfl rfl ?_
  refine run_seg (k := 2) (s' := (2, [some (vR 7), some (vI p1)], [vI p1, vR 7], σ)) rfl ?_
  refine run_callN (w := fun a => some (vI a)) (m := 85) (as := [vR 7, vI p1]) (pc := 5) (ls := [some (vR 7), some (vI p1)]) (st' := []) (σ := σ) hf rfl (fun _ h => (c_Table_hasEnd h).mono (by decide)) (fun r1 hf => ?_)
  refine run_seg (k := 1) (s' := (if r1 = 0 then (17, [some (vR 7), some (vI p1)], [], σ) else (8, [some (vR 7), some (vI p1)], [], σ))) rfl ?_
  refine run_ite hf (fun _ hf => ?_) (fun _ hf => ?_)
  · refine run_seg (k := 1) (s' := (18, [some (vR 7), some (vI p1)], [vI 0], σ)) rfl ?_
    exact run_ret hf rfl
  · refine run_seg (k := 3) (s' := (13, [some (vR 7), some (vI p1)], [vI p1, vR 14], σ)) rfl ?_
    refine run_guard (s' := (14, [some (vR 7), some (vI p1)], [vI (σ 14 p1.toNat)], σ)) hf rfl (fun hf => ?_)
    refine run_seg (k := 1) (s' := (18, [some (vR 7), some (vI p1)], [vI (σ 14 p1.toNat)], σ)) rfl ?_
    exact run_ret hf rfl
/-- BentPenny$Table.shareBelow(I)I -/
def f_Table_shareBelow (p1 : Int) (σ : xSt) : Option (Int) :=
  xbR (f_Table_hasEnd p1 σ) fun r1 =>
  if r1 = 0 then (some 0)
  else (if 0 ≤ p1 ∧ p1 < 6 then (
  some (σ 15 p1.toNat)) else none)
theorem c_Table_shareBelow {p1 : Int} {σ : xSt} {r : Int} (hf : f_Table_shareBelow p1 σ = some r) : Call (1 + 1) 88 [vR 7, vI p1] σ ((tI σ) r).1 ((tI σ) r).2 := by
  unfold f_Table_shareBelow at hf
  refine call_of (own := 8) (rk := 1) (cd := kX8_shareBelow) (ls := [some (vR 7), some (vI p1)]) (rT := (tI σ)) rfl rfl rfl rfl rfl ?_
  refine run_seg (k := 2) (s' := (2, [some (vR 7), some (vI p1)], [vI p1, vR 7], σ)) rfl ?_
  refine run_callN (w := fun a => some (vI a)) (m := 85) (as := [vR 7, vI p1]) (pc := 5) (ls := [some (vR 7), some (vI p1)]) (st' := []) (σ := σ) hf rfl (fun _ h => (c_Table_hasEnd h).mono (by decide)) (fun r1 hf => ?_)
  refine run_seg (k := 1) (s' := (if r1 = 0 then (17, [some (vR 7), some (vI p1)], [], σ) else (8, [some (vR 7), some (vI p1)], [], σ))) rfl ?_
  refine run_ite hf (fun _ hf => ?_) (fun _ hf => ?_)
  · refine run_seg (k := 1) (s' := (18, [some (vR 7), some (vI p1)], [vI 0], σ)) rfl ?_
    exact run_ret hf rfl
  · refine run_seg (k := 3) (s' := (13, [some (vR 7), some (vI p1)], [vI p1, vR 15], σ)) rfl ?_
    refine run_guard (s' := (14, [some (vR 7), some (vI p1)], [vI (σ 15 p1.toNat)], σ)) hf rfl (fun hf => ?_)
    refine run_seg (k := 1) (s' := (18, [some (vR 7), some (vI p1)], [vI (σ 15 p1.toNat)], σ)) rfl ?_
    exact run_ret hf rfl
/-- BentPenny.share(II)I -/
def f_X_share (p1 : Int) (p2 : Int) (σ : xSt) : Option (Int) :=
  xbR (f_Table_hasShare p1 σ) fun r1 =>
  if r1 = 0 then (some (-1))
  else (xbR (f_X_isWithin p2 2 σ) fun r2 =>
  if r2 = 0 then (some (-1))
  else (if p2 = 0 then (xbR (f_Table_shareAbove p1 σ) fun r3 =>
  some r3)
  else (xbR (f_Table_shareBelow p1 σ) fun r4 =>
  some r4)))
theorem c_X_share {p1 : Int} {p2 : Int} {σ : xSt} {r : Int} (hf : f_X_share p1 p2 σ = some r) : Call (2 + 1) 158 [vR 0, vI p1, vI p2] σ ((tI σ) r).1 ((tI σ) r).2 := by
  unfold f_X_share at hf
  refine call_of (own := 11) (rk := 1) (cd := kX11_share) (ls := [some (vR 0), some (vI p1), some (vI p2)]) (rT := (tI σ)) rfl rfl rfl rfl rfl ?_
  refine run_seg (k := 4) (s' := (8, [some (vR 0), some (vI p1), some (vI p2)], [vI p1, vR 7], σ)) rfl ?_
  refine run_callN (w := fun a => some (vI a)) (m := 86) (as := [vR 7, vI p1]) (pc := 11) (ls := [some (vR 0), some (vI p1), some (vI p2)]) (st' := []) (σ := σ) hf rfl (fun _ h => (c_Table_hasShare h).mono (by decide)) (fun r1 hf => ?_)
  refine run_seg (k := 1) (s' := (if r1 = 0 then (22, [some (vR 0), some (vI p1), some (vI p2)], [], σ) else (14, [some (vR 0), some (vI p1), some (vI p2)], [], σ))) rfl ?_
  refine run_ite hf (fun _ hf => ?_) (fun _ hf => ?_)
  · refine run_seg (k := 1) (s' := (23, [some (vR 0), some (vI p1), some (vI p2)], [vI (-1)], σ)) rfl ?_
    exact run_ret hf rfl
  · refine run_seg (k := 2) (s' := (16, [some (vR 0), some (vI p1), some (vI p2)], [vI 2, vI p2], σ)) rfl ?_
    refine run_callN (w := fun a => some (vI a)) (m := 207) (as := [vI p2, vI 2]) (pc := 19) (ls := [some (vR 0), some (vI p1), some (vI p2)]) (st' := []) (σ := σ) hf rfl (fun _ h => (c_X_isWithin h).mono (by decide)) (fun r2 hf => ?_)
    refine run_seg (k := 1) (s' := (if r2 = 0 then (22, [some (vR 0), some (vI p1), some (vI p2)], [], σ) else (24, [some (vR 0), some (vI p1), some (vI p2)], [], σ))) rfl ?_
    refine run_ite hf (fun _ hf => ?_) (fun _ hf => ?_)
    · refine run_seg (k := 1) (s' := (23, [some (vR 0), some (vI p1), some (vI p2)], [vI (-1)], σ)) rfl ?_
      exact run_ret hf rfl
    · refine run_seg (k := 2) (s' := (if p2 = 0 then (28, [some (vR 0), some (vI p1), some (vI p2)], [], σ) else (42, [some (vR 0), some (vI p1), some (vI p2)], [], σ))) rfl ?_
      refine run_ite hf (fun _ hf => ?_) (fun _ hf => ?_)
      · refine run_seg (k := 4) (s' := (36, [some (vR 0), some (vI p1), some (vI p2)], [vI p1, vR 7], σ)) rfl ?_
        refine run_callN (w := fun a => some (vI a)) (m := 87) (as := [vR 7, vI p1]) (pc := 39) (ls := [some (vR 0), some (vI p1), some (vI p2)]) (st' := []) (σ := σ) hf rfl (fun _ h => (c_Table_shareAbove h).mono (by decide)) (fun r3 hf => ?_)
        refine run_seg (k := 1) (s' := (53, [some (vR 0), some (vI p1), some (vI p2)], [vI r3], σ)) rfl ?_
        exact run_ret hf rfl
      · refine run_seg (k := 4) (s' := (50, [some (vR 0), some (vI p1), some (vI p2)], [vI p1, vR 7], σ)) rfl ?_
        refine run_callN (w := fun a => some (vI a)) (m := 88) (as := [vR 7, vI p1]) (pc := 53) (ls := [some (vR 0), some (vI p1), some (vI p2)]) (st' := []) (σ := σ) hf rfl (fun _ h => (c_Table_shareBelow h).mono (by decide)) (fun r4 hf => ?_)
        exact run_ret hf rfl
/-- BentPenny$Way.hasNode(I)Z -/
def f_Way_hasNode (a0 : Nat) (p1 : Int) (σ : xSt) : Option (Int) :=
  if p1 < 0 then (some 0)
  else (if p1 < σ a0 0 then (if p1 < 80 then (some 1)
  else (some 0))
  else (some 0))
theorem c_Way_hasNode_16 {p1 : Int} {σ : xSt} {r : Int} (hf : f_Way_hasNode 16 p1 σ = some r) : Call (0 + 1) 130 [vR 16, vI p1] σ ((tI σ) r).1 ((tI σ) r).2 := by
  unfold f_Way_hasNode at hf
  refine call_of (own := 10) (rk := 2) (cd := kX10_hasNode) (ls := [some (vR 16), some (vI p1)]) (rT := (tI σ)) rfl rfl rfl rfl rfl ?_
  refine run_seg (k := 2) (s' := (if p1 < 0 then (22, [some (vR 16), some (vI p1)], [], σ) else (4, [some (vR 16), some (vI p1)], [], σ))) rfl ?_
  refine run_ite hf (fun _ hf => ?_) (fun _ hf => ?_)
  · refine run_seg (k := 1) (s' := (23, [some (vR 16), some (vI p1)], [vI 0], σ)) rfl ?_
    exact run_ret hf rfl
  · refine run_seg (k := 4) (s' := (if p1 < σ 16 0 then (12, [some (vR 16), some (vI p1)], [], σ) else (22, [some (vR 16), some (vI p1)], [], σ))) rfl ?_
    refine run_ite hf (fun _ hf => ?_) (fun _ hf => ?_)
    · refine run_seg (k := 3) (s' := (if p1 < 80 then (18, [some (vR 16), some (vI p1)], [], σ) else (22, [some (vR 16), some (vI p1)], [], σ))) rfl ?_
      refine run_ite hf (fun _ hf => ?_) (fun _ hf => ?_)
      · refine run_seg (k := 2) (s' := (23, [some (vR 16), some (vI p1)], [vI 1], σ)) rfl ?_
        exact run_ret hf rfl
      · refine run_seg (k := 1) (s' := (23, [some (vR 16), some (vI p1)], [vI 0], σ)) rfl ?_
        exact run_ret hf rfl
    · refine run_seg (k := 1) (s' := (23, [some (vR 16), some (vI p1)], [vI 0], σ)) rfl ?_
      exact run_ret hf rfl
theorem c_Way_hasNode_36 {p1 : Int} {σ : xSt} {r : Int} (hf : f_Way_hasNode 36 p1 σ = some r) : Call (0 + 1) 130 [vR 36, vI p1] σ ((tI σ) r).1 ((tI σ) r).2 := by
  unfold f_Way_hasNode at hf
  refine call_of (own := 10) (rk := 2) (cd := kX10_hasNode) (ls := [some (vR 36), some (vI p1)]) (rT := (tI σ)) rfl rfl rfl rfl rfl ?_
  refine run_seg (k := 2) (s' := (if p1 < 0 then (22, [some (vR 36), some (vI p1)], [], σ) else (4, [some (vR 36), some (vI p1)], [], σ))) rfl ?_
  refine run_ite hf (fun _ hf => ?_) (fun _ hf => ?_)
  · refine run_seg (k := 1) (s' := (23, [some (vR 36), some (vI p1)], [vI 0], σ)) rfl ?_
    exact run_ret hf rfl
  · refine run_seg (k := 4) (s' := (if p1 < σ 36 0 then (12, [some (vR 36), some (vI p1)], [], σ) else (22, [some (vR 36), some (vI p1)], [], σ))) rfl ?_
    refine run_ite hf (fun _ hf => ?_) (fun _ hf => ?_)
    · refine run_seg (k := 3) (s' := (if p1 < 80 then (18, [some (vR 36), some (vI p1)], [], σ) else (22, [some (vR 36), some (vI p1)], [], σ))) rfl ?_
      refine run_ite hf (fun _ hf => ?_) (fun _ hf => ?_)
      · refine run_seg (k := 2) (s' := (23, [some (vR 36), some (vI p1)], [vI 1], σ)) rfl ?_
        exact run_ret hf rfl
      · refine run_seg (k := 1) (s' := (23, [some (vR 36), some (vI p1)], [vI 0], σ)) rfl ?_
        exact run_ret hf rfl
    · refine run_seg (k := 1) (s' := (23, [some (vR 36), some (vI p1)], [vI 0], σ)) rfl ?_
      exact run_ret hf rfl
def f_Way_add_64 (a0 : Nat) : Nat → Int → Int → Int → Int → xSt → Option (Int × xSt)
  | 0, _, _, _, _, _ => none
  | n + 1, l3, l4, l5, l6, σ =>
    if l6 < 6 then (if 0 ≤ w32 ((w32 (l5 * 6)) + l6) ∧ w32 ((w32 (l5 * 6)) + l6) < 480 then (
    xlet (upS σ (a0 + 5) (w32 ((w32 (l5 * 6)) + l6)).toNat (-1)) fun σ8 =>
    xlet (w32 (l6 + 1)) fun x9 =>
    f_Way_add_64 a0 n l3 l4 l5 x9 σ8) else none)
    else (xbR (f_Way_hasNode a0 l3 σ) fun r10 =>
    if r10 = 0 then (some (l5, σ))
    else (xbR (f_X_isWithin l4 6 σ) fun r11 =>
    if r11 = 0 then (some (l5, σ))
    else (if 0 ≤ w32 ((w32 (l3 * 6)) + l4) ∧ w32 ((w32 (l3 * 6)) + l4) < 480 then (
    xlet (upS σ (a0 + 5) (w32 ((w32 (l3 * 6)) + l4)).toNat l5) fun σ12 =>
    some (l5, σ12)) else none)))
/-- BentPenny$Way.add(IIII)I -/
def f_Way_add (a0 : Nat) (p1 : Int) (p2 : Int) (p3 : Int) (p4 : Int) (σ : xSt) : Option (Int × xSt) :=
  xlet (σ a0 0) fun x1 =>
  xbR (f_X_isWithin x1 80 σ) fun r2 =>
  if r2 = 0 then (some ((-1), σ))
  else (xlet (upS σ a0 0 (w32 ((σ a0 0) + 1))) fun σ3 =>
  if 0 ≤ x1 ∧ x1 < 80 then (
  xlet (upS σ3 (a0 + 1) x1.toNat p1) fun σ4 =>
  if 0 ≤ x1 ∧ x1 < 80 then (
  xlet (upS σ4 (a0 + 2) x1.toNat p2) fun σ5 =>
  if 0 ≤ x1 ∧ x1 < 80 then (
  xlet (upS σ5 (a0 + 3) x1.toNat p3) fun σ6 =>
  if 0 ≤ x1 ∧ x1 < 80 then (
  xlet (upS σ6 (a0 + 4) x1.toNat p4) fun σ7 =>
  f_Way_add_64 a0 1000000 p3 p4 x1 0 σ7) else none) else none) else none) else none)
theorem r_Way_add_64_16 : ∀ (n : Nat) {l3 : Int} {l4 : Int} {l5 : Int} {l6 : Int} {g1 : Option xV} {g2 : Option xV} {σ : xSt} {r : Int × xSt}, f_Way_add_64 16 n l3 l4 l5 l6 σ = some r → Run 1 10 1 kX10_add (64, [some (vR 16), g1, g2, some (vI l3), some (vI l4), some (vI l5), some (vI l6)], [], σ) (tIW r) := by
  intro n
  induction n with
  | zero =>
    intro _ _ _ _ _ _ _ _ h
    exact nomatch (show (none : Option (Int × xSt)) = some _ from h)
  | succ n ih =>
    intro l3 l4 l5 l6 g1 g2 σ r hf
    unfold f_Way_add_64 at hf
    refine run_seg (k := 3) (s' := (if l6 < 6 then (71, [some (vR 16), g1, g2, some (vI l3), some (vI l4), some (vI l5), some (vI l6)], [], σ) else (91, [some (vR 16), g1, g2, some (vI l3), some (vI l4), some (vI l5), some (vI l6)], [], σ))) rfl ?_
    refine run_ite hf (fun _ hf => ?_) (fun _ hf => ?_)
    · refine run_seg (k := 8) (s' := (84, [some (vR 16), g1, g2, some (vI l3), some (vI l4), some (vI l5), some (vI l6)], [vI (-1), vI (w32 ((w32 (l5 * 6)) + l6)), vR 21], σ)) rfl ?_
      refine run_guard (s' := (85, [some (vR 16), g1, g2, some (vI l3), some (vI l4), some (vI l5), some (vI l6)], [], upS σ 21 (w32 ((w32 (l5 * 6)) + l6)).toNat (-1))) hf rfl (fun hf => ?_)
      refine run_let (fun σ8 => (85, [some (vR 16), g1, g2, some (vI l3), some (vI l4), some (vI l5), some (vI l6)], [], σ8)) hf (fun σ8 hf => ?_)
      refine run_seg (k := 1) (s' := (88, [some (vR 16), g1, g2, some (vI l3), some (vI l4), some (vI l5), some (vI (w32 (l6 + 1)))], [], σ8)) rfl ?_
      refine run_let (fun x9 => (88, [some (vR 16), g1, g2, some (vI l3), some (vI l4), some (vI l5), some (vI x9)], [], σ8)) hf (fun x9 hf => ?_)
      refine run_seg (k := 1) (s' := (64, [some (vR 16), g1, g2, some (vI l3), some (vI l4), some (vI l5), some (vI x9)], [], σ8)) rfl ?_
      exact ih hf
    · refine run_seg (k := 2) (s' := (93, [some (vR 16), g1, g2, some (vI l3), some (vI l4), some (vI l5), some (vI l6)], [vI l3, vR 16], σ)) rfl ?_
      refine run_callN (w := fun a => some (vI a)) (m := 130) (as := [vR 16, vI l3]) (pc := 96) (ls := [some (vR 16), g1, g2, some (vI l3), some (vI l4), some (vI l5), some (vI l6)]) (st' := []) (σ := σ) hf rfl (fun _ h => (c_Way_hasNode_16 h).mono (by decide)) (fun r10 hf => ?_)
      refine run_seg (k := 1) (s' := (if r10 = 0 then (123, [some (vR 16), g1, g2, some (vI l3), some (vI l4), some (vI l5), some (vI l6)], [], σ) else (99, [some (vR 16), g1, g2, some (vI l3), some (vI l4), some (vI l5), some (vI l6)], [], σ))) rfl ?_
      refine run_ite hf (fun _ hf => ?_) (fun _ hf => ?_)
      · refine run_seg (k := 1) (s' := (125, [some (vR 16), g1, g2, some (vI l3), some (vI l4), some (vI l5), some (vI l6)], [vI l5], σ)) rfl ?_
        exact run_ret hf rfl
      · refine run_seg (k := 2) (s' := (103, [some (vR 16), g1, g2, some (vI l3), some (vI l4), some (vI l5), some (vI l6)], [vI 6, vI l4], σ)) rfl ?_
        refine run_callN (w := fun a => some (vI a)) (m := 207) (as := [vI l4, vI 6]) (pc := 106) (ls := [some (vR 16), g1, g2, some (vI l3), some (vI l4), some (vI l5), some (vI l6)]) (st' := []) (σ := σ) hf rfl (fun _ h => (c_X_isWithin h).mono (by decide)) (fun r11 hf => ?_)
        refine run_seg (k := 1) (s' := (if r11 = 0 then (123, [some (vR 16), g1, g2, some (vI l3), some (vI l4), some (vI l5), some (vI l6)], [], σ) else (109, [some (vR 16), g1, g2, some (vI l3), some (vI l4), some (vI l5), some (vI l6)], [], σ))) rfl ?_
        refine run_ite hf (fun _ hf => ?_) (fun _ hf => ?_)
        · refine run_seg (k := 1) (s' := (125, [some (vR 16), g1, g2, some (vI l3), some (vI l4), some (vI l5), some (vI l6)], [vI l5], σ)) rfl ?_
          exact run_ret hf rfl
        · refine run_seg (k := 8) (s' := (122, [some (vR 16), g1, g2, some (vI l3), some (vI l4), some (vI l5), some (vI l6)], [vI l5, vI (w32 ((w32 (l3 * 6)) + l4)), vR 21], σ)) rfl ?_
          refine run_guard (s' := (123, [some (vR 16), g1, g2, some (vI l3), some (vI l4), some (vI l5), some (vI l6)], [], upS σ 21 (w32 ((w32 (l3 * 6)) + l4)).toNat l5)) hf rfl (fun hf => ?_)
          refine run_let (fun σ12 => (123, [some (vR 16), g1, g2, some (vI l3), some (vI l4), some (vI l5), some (vI l6)], [], σ12)) hf (fun σ12 hf => ?_)
          refine run_seg (k := 1) (s' := (125, [some (vR 16), g1, g2, some (vI l3), some (vI l4), some (vI l5), some (vI l6)], [vI l5], σ12)) rfl ?_
          exact run_ret hf rfl
theorem c_Way_add_16 {p1 : Int} {p2 : Int} {p3 : Int} {p4 : Int} {σ : xSt} {r : Int × xSt} (hf : f_Way_add 16 p1 p2 p3 p4 σ = some r) : Call (1 + 1) 140 [vR 16, vI p1, vI p2, vI p3, vI p4] σ (tIW r).1 (tIW r).2 := by
  unfold f_Way_add at hf
  refine call_of (own := 10) (rk := 1) (cd := kX10_add) (ls := [some (vR 16), some (vI p1), some (vI p2), some (vI p3), some (vI p4), none, none]) (rT := tIW) rfl rfl rfl rfl rfl ?_
  refine run_seg (k := 3) (s' := (6, [some (vR 16), some (vI p1), some (vI p2), some (vI p3), some (vI p4), some (vI (σ 16 0)), none], [], σ)) rfl ?_
  refine run_let (fun x1 => (6, [some (vR 16), some (vI p1), some (vI p2), some (vI p3), some (vI p4), some (vI x1), none], [], σ)) hf (fun x1 hf => ?_)
  refine run_seg (k := 2) (s' := (10, [some (vR 16), some (vI p1), some (vI p2), some (vI p3), some (vI p4), some (vI x1), none], [vI 80, vI x1], σ)) rfl ?_
  refine run_callN (w := fun a => some (vI a)) (m := 207) (as := [vI x1, vI 80]) (pc := 13) (ls := [some (vR 16), some (vI p1), some (vI p2), some (vI p3), some (vI p4), some (vI x1), none]) (st' := []) (σ := σ) hf rfl (fun _ h => (c_X_isWithin h).mono (by decide)) (fun r2 hf => ?_)
  refine run_seg (k := 1) (s' := (if r2 = 0 then (16, [some (vR 16), some (vI p1), some (vI p2), some (vI p3), some (vI p4), some (vI x1), none], [], σ) else (18, [some (vR 16), some (vI p1), some (vI p2), some (vI p3), some (vI p4), some (vI x1), none], [], σ))) rfl ?_
  refine run_ite hf (fun _ hf => ?_) (fun _ hf => ?_)
  · refine run_seg (k := 1) (s' := (17, [some (vR 16), some (vI p1), some (vI p2), some (vI p3), some (vI p4), some (vI x1), none], [vI (-1)], σ)) rfl ?_
    exact run_ret hf rfl
  · refine run_seg (k := 6) (s' := (28, [some (vR 16), some (vI p1), some (vI p2), some (vI p3), some (vI p4), some (vI x1), none], [], upS σ 16 0 (w32 ((σ 16 0) + 1)))) rfl ?_
    refine run_let (fun σ3 => (28, [some (vR 16), some (vI p1), some (vI p2), some (vI p3), some (vI p4), some (vI x1), none], [], σ3)) hf (fun σ3 hf => ?_)
    refine run_seg (k := 4) (s' := (35, [some (vR 16), some (vI p1), some (vI p2), some (vI p3), some (vI p4), some (vI x1), none], [vI p1, vI x1, vR 17], σ3)) rfl ?_
    refine run_guard (s' := (36, [some (vR 16), some (vI p1), some (vI p2), some (vI p3), some (vI p4), some (vI x1), none], [], upS σ3 17 x1.toNat p1)) hf rfl (fun hf => ?_)
    refine run_let (fun σ4 => (36, [some (vR 16), some (vI p1), some (vI p2), some (vI p3), some (vI p4), some (vI x1), none], [], σ4)) hf (fun σ4 hf => ?_)
    refine run_seg (k := 4) (s' := (43, [some (vR 16), some (vI p1), some (vI p2), some (vI p3), some (vI p4), some (vI x1), none], [vI p2, vI x1, vR 18], σ4)) rfl ?_
    refine run_guard (s' := (44, [some (vR 16), some (vI p1), some (vI p2), some (vI p3), some (vI p4), some (vI x1), none], [], upS σ4 18 x1.toNat p2)) hf rfl (fun hf => ?_)
    refine run_let (fun σ5 => (44, [some (vR 16), some (vI p1), some (vI p2), some (vI p3), some (vI p4), some (vI x1), none], [], σ5)) hf (fun σ5 hf => ?_)
    refine run_seg (k := 4) (s' := (51, [some (vR 16), some (vI p1), some (vI p2), some (vI p3), some (vI p4), some (vI x1), none], [vI p3, vI x1, vR 19], σ5)) rfl ?_
    refine run_guard (s' := (52, [some (vR 16), some (vI p1), some (vI p2), some (vI p3), some (vI p4), some (vI x1), none], [], upS σ5 19 x1.toNat p3)) hf rfl (fun hf => ?_)
    refine run_let (fun σ6 => (52, [some (vR 16), some (vI p1), some (vI p2), some (vI p3), some (vI p4), some (vI x1), none], [], σ6)) hf (fun σ6 hf => ?_)
    refine run_seg (k := 4) (s' := (60, [some (vR 16), some (vI p1), some (vI p2), some (vI p3), some (vI p4), some (vI x1), none], [vI p4, vI x1, vR 20], σ6)) rfl ?_
    refine run_guard (s' := (61, [some (vR 16), some (vI p1), some (vI p2), some (vI p3), some (vI p4), some (vI x1), none], [], upS σ6 20 x1.toNat p4)) hf rfl (fun hf => ?_)
    refine run_let (fun σ7 => (61, [some (vR 16), some (vI p1), some (vI p2), some (vI p3), some (vI p4), some (vI x1), none], [], σ7)) hf (fun σ7 hf => ?_)
    refine run_seg (k := 2) (s' := (64, [some (vR 16), some (vI p1), some (vI p2), some (vI p3), some (vI p4), some (vI x1), some (vI 0)], [], σ7)) rfl ?_
    exact r_Way_add_64_16 1000000 hf
theorem r_Way_add_64_36 : ∀ (n : Nat) {l3 : Int} {l4 : Int} {l5 : Int} {l6 : Int} {g1 : Option xV} {g2 : Option xV} {σ : xSt} {r : Int × xSt}, f_Way_add_64 36 n l3 l4 l5 l6 σ = some r → Run 1 10 1 kX10_add (64, [some (vR 36), g1, g2, some (vI l3), some (vI l4), some (vI l5), some (vI l6)], [], σ) (tIW r) := by
  intro n
  induction n with
  | zero =>
    intro _ _ _ _ _ _ _ _ h
    exact nomatch (show (none : Option (Int × xSt)) = some _ from h)
  | succ n ih =>
    intro l3 l4 l5 l6 g1 g2 σ r hf
    unfold f_Way_add_64 at hf
    refine run_seg (k := 3) (s' := (if l6 < 6 then (71, [some (vR 36), g1, g2, some (vI l3), some (vI l4), some (vI l5), some (vI l6)], [], σ) else (91, [some (vR 36), g1, g2, some (vI l3), some (vI l4), some (vI l5), some (vI l6)], [], σ))) rfl ?_
    refine run_ite hf (fun _ hf => ?_) (fun _ hf => ?_)
    · refine run_seg (k := 8) (s' := (84, [some (vR 36), g1, g2, some (vI l3), some (vI l4), some (vI l5), some (vI l6)], [vI (-1), vI (w32 ((w32 (l5 * 6)) + l6)), vR 41], σ)) rfl ?_
      refine run_guard (s' := (85, [some (vR 36), g1, g2, some (vI l3), some (vI l4), some (vI l5), some (vI l6)], [], upS σ 41 (w32 ((w32 (l5 * 6)) + l6)).toNat (-1))) hf rfl (fun hf => ?_)
      refine run_let (fun σ8 => (85, [some (vR 36), g1, g2, some (vI l3), some (vI l4), some (vI l5), some (vI l6)], [], σ8)) hf (fun σ8 hf => ?_)
      refine run_seg (k := 1) (s' := (88, [some (vR 36), g1, g2, some (vI l3), some (vI l4), some (vI l5), some (vI (w32 (l6 + 1)))], [], σ8)) rfl ?_
      refine run_let (fun x9 => (88, [some (vR 36), g1, g2, some (vI l3), some (vI l4), some (vI l5), some (vI x9)], [], σ8)) hf (fun x9 hf => ?_)
      refine run_seg (k := 1) (s' := (64, [some (vR 36), g1, g2, some (vI l3), some (vI l4), some (vI l5), some (vI x9)], [], σ8)) rfl ?_
      exact ih hf
    · refine run_seg (k := 2) (s' := (93, [some (vR 36), g1, g2, some (vI l3), some (vI l4), some (vI l5), some (vI l6)], [vI l3, vR 36], σ)) rfl ?_
      refine run_callN (w := fun a => some (vI a)) (m := 130) (as := [vR 36, vI l3]) (pc := 96) (ls := [some (vR 36), g1, g2, some (vI l3), some (vI l4), some (vI l5), some (vI l6)]) (st' := []) (σ := σ) hf rfl (fun _ h => (c_Way_hasNode_36 h).mono (by decide)) (fun r10 hf => ?_)
      refine run_seg (k := 1) (s' := (if r10 = 0 then (123, [some (vR 36), g1, g2, some (vI l3), some (vI l4), some (vI l5), some (vI l6)], [], σ) else (99, [some (vR 36), g1, g2, some (vI l3), some (vI l4), some (vI l5), some (vI l6)], [], σ))) rfl ?_
      refine run_ite hf (fun _ hf => ?_) (fun _ hf => ?_)
      · refine run_seg (k := 1) (s' := (125, [some (vR 36), g1, g2, some (vI l3), some (vI l4), some (vI l5), some (vI l6)], [vI l5], σ)) rfl ?_
        exact run_ret hf rfl
      · refine run_seg (k := 2) (s' := (103, [some (vR 36), g1, g2, some (vI l3), some (vI l4), some (vI l5), some (vI l6)], [vI 6, vI l4], σ)) rfl ?_
        refine run_callN (w := fun a => some (vI a)) (m := 207) (as := [vI l4, vI 6]) (pc := 106) (ls := [some (vR 36), g1, g2, some (vI l3), some (vI l4), some (vI l5), some (vI l6)]) (st' := []) (σ := σ) hf rfl (fun _ h => (c_X_isWithin h).mono (by decide)) (fun r11 hf => ?_)
        refine run_seg (k := 1) (s' := (if r11 = 0 then (123, [some (vR 36), g1, g2, some (vI l3), some (vI l4), some (vI l5), some (vI l6)], [], σ) else (109, [some (vR 36), g1, g2, some (vI l3), some (vI l4), some (vI l5), some (vI l6)], [], σ))) rfl ?_
        refine run_ite hf (fun _ hf => ?_) (fun _ hf => ?_)
        · refine run_seg (k := 1) (s' := (125, [some (vR 36), g1, g2, some (vI l3), some (vI l4), some (vI l5), some (vI l6)], [vI l5], σ)) rfl ?_
          exact run_ret hf rfl
        · refine run_seg (k := 8) (s' := (122, [some (vR 36), g1, g2, some (vI l3), some (vI l4), some (vI l5), some (vI l6)], [vI l5, vI (w32 ((w32 (l3 * 6)) + l4)), vR 41], σ)) rfl ?_
          refine run_guard (s' := (123, [some (vR 36), g1, g2, some (vI l3), some (vI l4), some (vI l5), some (vI l6)], [], upS σ 41 (w32 ((w32 (l3 * 6)) + l4)).toNat l5)) hf rfl (fun hf => ?_)
          refine run_let (fun σ12 => (123, [some (vR 36), g1, g2, some (vI l3), some (vI l4), some (vI l5), some (vI l6)], [], σ12)) hf (fun σ12 hf => ?_)
          refine run_seg (k := 1) (s' := (125, [some (vR 36), g1, g2, some (vI l3), some (vI l4), some (vI l5), some (vI l6)], [vI l5], σ12)) rfl ?_
          exact run_ret hf rfl
theorem c_Way_add_36 {p1 : Int} {p2 : Int} {p3 : Int} {p4 : Int} {σ : xSt} {r : Int × xSt} (hf : f_Way_add 36 p1 p2 p3 p4 σ = some r) : Call (1 + 1) 140 [vR 36, vI p1, vI p2, vI p3, vI p4] σ (tIW r).1 (tIW r).2 := by
  unfold f_Way_add at hf
  refine call_of (own := 10) (rk := 1) (cd := kX10_add) (ls := [some (vR 36), some (vI p1), some (vI p2), some (vI p3), some (vI p4), none, none]) (rT := tIW) rfl rfl rfl rfl rfl ?_
  refine run_seg (k := 3) (s' := (6, [some (vR 36), some (vI p1), some (vI p2), some (vI p3), some (vI p4), some (vI (σ 36 0)), none], [], σ)) rfl ?_
  refine run_let (fun x1 => (6, [some (vR 36), some (vI p1), some (vI p2), some (vI p3), some (vI p4), some (vI x1), none], [], σ)) hf (fun x1 hf => ?_)
  refine run_seg (k := 2) (s' := (10, [some (vR 36), some (vI p1), some (vI p2), some (vI p3), some (vI p4), some (vI x1), none], [vI 80, vI x1], σ)) rfl ?_
  refine run_callN (w := fun a => some (vI a)) (m := 207) (as := [vI x1, vI 80]) (pc := 13) (ls := [some (vR 36), some (vI p1), some (vI p2), some (vI p3), some (vI p4), some (vI x1), none]) (st' := []) (σ := σ) hf rfl (fun _ h => (c_X_isWithin h).mono (by decide)) (fun r2 hf => ?_)
  refine run_seg (k := 1) (s' := (if r2 = 0 then (16, [some (vR 36), some (vI p1), some (vI p2), some (vI p3), some (vI p4), some (vI x1), none], [], σ) else (18, [some (vR 36), some (vI p1), some (vI p2), some (vI p3), some (vI p4), some (vI x1), none], [], σ))) rfl ?_
  refine run_ite hf (fun _ hf => ?_) (fun _ hf => ?_)
  · refine run_seg (k := 1) (s' := (17, [some (vR 36), some (vI p1), some (vI p2), some (vI p3), some (vI p4), some (vI x1), none], [vI (-1)], σ)) rfl ?_
    exact run_ret hf rfl
  · refine run_seg (k := 6) (s' := (28, [some (vR 36), some (vI p1), some (vI p2), some (vI p3), some (vI p4), some (vI x1), none], [], upS σ 36 0 (w32 ((σ 36 0) + 1)))) rfl ?_
    refine run_let (fun σ3 => (28, [some (vR 36), some (vI p1), some (vI p2), some (vI p3), some (vI p4), some (vI x1), none], [], σ3)) hf (fun σ3 hf => ?_)
    refine run_seg (k := 4) (s' := (35, [some (vR 36), some (vI p1), some (vI p2), some (vI p3), some (vI p4), some (vI x1), none], [vI p1, vI x1, vR 37], σ3)) rfl ?_
    refine run_guard (s' := (36, [some (vR 36), some (vI p1), some (vI p2), some (vI p3), some (vI p4), some (vI x1), none], [], upS σ3 37 x1.toNat p1)) hf rfl (fun hf => ?_)
    refine run_let (fun σ4 => (36, [some (vR 36), some (vI p1), some (vI p2), some (vI p3), some (vI p4), some (vI x1), none], [], σ4)) hf (fun σ4 hf => ?_)
    refine run_seg (k := 4) (s' := (43, [some (vR 36), some (vI p1), some (vI p2), some (vI p3), some (vI p4), some (vI x1), none], [vI p2, vI x1, vR 38], σ4)) rfl ?_
    refine run_guard (s' := (44, [some (vR 36), some (vI p1), some (vI p2), some (vI p3), some (vI p4), some (vI x1), none], [], upS σ4 38 x1.toNat p2)) hf rfl (fun hf => ?_)
    refine run_let (fun σ5 => (44, [some (vR 36), some (vI p1), some (vI p2), some (vI p3), some (vI p4), some (vI x1), none], [], σ5)) hf (fun σ5 hf => ?_)
    refine run_seg (k := 4) (s' := (51, [some (vR 36), some (vI p1), some (vI p2), some (vI p3), some (vI p4), some (vI x1), none], [vI p3, vI x1, vR 39], σ5)) rfl ?_
    refine run_guard (s' := (52, [some (vR 36), some (vI p1), some (vI p2), some (vI p3), some (vI p4), some (vI x1), none], [], upS σ5 39 x1.toNat p3)) hf rfl (fun hf => ?_)
    refine run_let (fun σ6 => (52, [some (vR 36), some (vI p1), some (vI p2), some (vI p3), some (vI p4), some (vI x1), none], [], σ6)) hf (fun σ6 hf => ?_)
    refine run_seg (k := 4) (s' := (60, [some (vR 36), some (vI p1), some (vI p2), some (vI p3), some (vI p4), some (vI x1), none], [vI p4, vI x1, vR 40], σ6)) rfl ?_
    refine run_guard (s' := (61, [some (vR 36), some (vI p1), some (vI p2), some (vI p3), some (vI p4), some (vI x1), none], [], upS σ6 40 x1.toNat p4)) hf rfl (fun hf => ?_)
    refine run_let (fun σ7 => (61, [some (vR 36), some (vI p1), some (vI p2), some (vI p3), some (vI p4), some (vI x1), none], [], σ7)) hf (fun σ7 hf => ?_)
    refine run_seg (k := 2) (s' := (64, [some (vR 36), some (vI p1), some (vI p2), some (vI p3), some (vI p4), some (vI x1), some (vI 0)], [], σ7)) rfl ?_
    exact r_Way_add_64_36 1000000 hf
