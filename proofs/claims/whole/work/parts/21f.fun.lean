/-! printed by wip/whole/all16.py: what the methods compute, and that the reader does so -/
def f_Way_readNode_108 (q_Way_readNode : (Int → Int → Int → xSt → Option (Int × xSt))) (q_Way_readSides : (Int → Int → Int → xSt → Option (Int × xSt))) (σ : xSt) : Option (Int × xSt) :=
  xbW (f_Tokens_fail 4 σ) fun r18 σ19 =>
  some (xnb r18, σ19)
def f_Way_readNode_135 (q_Way_readNode : (Int → Int → Int → xSt → Option (Int × xSt))) (q_Way_readSides : (Int → Int → Int → xSt → Option (Int × xSt))) (l4 : Int) (l5 : Int) (l7 : Int) (s0 : Int) (σ : xSt) : Option (Int × xSt) :=
  xbW (f_Way_add 36 s0 l7 l4 l5 σ) fun r20 σ21 =>
  some (1, σ21)
def f_Way_readNode_114 (q_Way_readNode : (Int → Int → Int → xSt → Option (Int × xSt))) (q_Way_readSides : (Int → Int → Int → xSt → Option (Int × xSt))) (l3 : Int) (l4 : Int) (l5 : Int) (l6 : Int) (l7 : Int) (l8 : Int) (σ : xSt) : Option (Int × xSt) :=
  xbR (f_Tokens_step σ) fun σ9 =>
  if l8 = (-1) then (if l6 = 0 then (f_Way_readNode_135 q_Way_readNode q_Way_readSides l4 l5 l7 0 σ9)
  else (f_Way_readNode_135 q_Way_readNode q_Way_readSides l4 l5 l7 1 σ9))
  else (xlet (upS σ9 36 1 (xmax (σ9 36 1) (w32 (l3 + 1)))) fun σ10 =>
  xbW (f_Way_add 36 2 l8 l4 l5 σ10) fun r11 σ12 =>
  xbW (f_Tokens_pass 40 σ12) fun r13 σ14 =>
  if r13 = 0 then (some (0, σ14))
  else (xbR (f_Table_sidesOf l8 σ14) fun r15 =>
  xbW (q_Way_readSides (w32 (l3 + 1)) r11 r15 σ14) fun r16 σ17 =>
  if r16 = 0 then (some (0, σ17))
  else (some (1, σ17))))
def f_Way_readNode_87 (q_Way_readNode : (Int → Int → Int → xSt → Option (Int × xSt))) (q_Way_readSides : (Int → Int → Int → xSt → Option (Int × xSt))) (l3 : Int) (l4 : Int) (l5 : Int) (l6 : Int) (l7 : Int) (l8 : Int) (σ : xSt) : Option (Int × xSt) :=
  if σ 36 0 < 80 then (if l8 = (-1) then (f_Way_readNode_114 q_Way_readNode q_Way_readSides l3 l4 l5 l6 l7 l8 σ)
  else (if l3 < 6 then (f_Way_readNode_114 q_Way_readNode q_Way_readSides l3 l4 l5 l6 l7 l8 σ)
  else (f_Way_readNode_108 q_Way_readNode q_Way_readSides σ)))
  else (f_Way_readNode_108 q_Way_readNode q_Way_readSides σ)
def f_Way_readNode_62 (q_Way_readNode : (Int → Int → Int → xSt → Option (Int × xSt))) (q_Way_readSides : (Int → Int → Int → xSt → Option (Int × xSt))) (l3 : Int) (l4 : Int) (l5 : Int) (l6 : Int) (l7 : Int) (s0 : Int) (σ : xSt) : Option (Int × xSt) :=
  if l6 = 0 then (if l7 = (-1) then (if s0 = (-1) then (xbW (f_Tokens_fail 3 σ) fun r7 σ8 =>
  some (xnb r7, σ8))
  else (f_Way_readNode_87 q_Way_readNode q_Way_readSides l3 l4 l5 l6 l7 s0 σ))
  else (f_Way_readNode_87 q_Way_readNode q_Way_readSides l3 l4 l5 l6 l7 s0 σ))
  else (f_Way_readNode_87 q_Way_readNode q_Way_readSides l3 l4 l5 l6 l7 s0 σ)
def f_Way_readNode_43 (q_Way_readNode : (Int → Int → Int → xSt → Option (Int × xSt))) (q_Way_readSides : (Int → Int → Int → xSt → Option (Int × xSt))) (l3 : Int) (l4 : Int) (l5 : Int) (l6 : Int) (s0 : Int) (σ : xSt) : Option (Int × xSt) :=
  if l6 = 0 then (xbR (f_Table_thingNamed 7 (σ 2 7) σ) fun r6 =>
  f_Way_readNode_62 q_Way_readNode q_Way_readSides l3 l4 l5 l6 s0 r6 σ)
  else (f_Way_readNode_62 q_Way_readNode q_Way_readSides l3 l4 l5 l6 s0 (-1) σ)
def f_Way_readNode_26 (q_Way_readNode : (Int → Int → Int → xSt → Option (Int × xSt))) (q_Way_readSides : (Int → Int → Int → xSt → Option (Int × xSt))) (l3 : Int) (l4 : Int) (l5 : Int) (l6 : Int) (σ : xSt) : Option (Int × xSt) :=
  if l6 = 0 then (xbR (f_Table_endNamed 7 (σ 2 7) σ) fun r5 =>
  f_Way_readNode_43 q_Way_readNode q_Way_readSides l3 l4 l5 l6 r5 σ)
  else (f_Way_readNode_43 q_Way_readNode q_Way_readSides l3 l4 l5 l6 (-1) σ)
/-- BentPenny$Way.readNode(LBentPenny$Tokens;LBentPenny$Table;III)Z -/
def f0_Way_readNode (q_Way_readNode : (Int → Int → Int → xSt → Option (Int × xSt))) (q_Way_readSides : (Int → Int → Int → xSt → Option (Int × xSt))) (p3 : Int) (p4 : Int) (p5 : Int) (σ : xSt) : Option (Int × xSt) :=
  xbR (f_Tokens_is 155 σ) fun r1 =>
  if r1 = 0 then (xbR (f_Tokens_isName σ) fun r2 =>
  if r2 = 0 then (xbW (f_Tokens_fail 1 σ) fun r3 σ4 =>
  some (xnb r3, σ4))
  else (f_Way_readNode_26 q_Way_readNode q_Way_readSides p3 p4 p5 r1 σ))
  else (f_Way_readNode_26 q_Way_readNode q_Way_readSides p3 p4 p5 r1 σ)
theorem r_Way_readNode_108 {d : Nat} (hd : 3 ≤ d) {q_Way_readNode : (Int → Int → Int → xSt → Option (Int × xSt))} (hq_Way_readNode : ∀ {p3 : Int} {p4 : Int} {p5 : Int} {σ : xSt} {r : Int × xSt}, q_Way_readNode p3 p4 p5 σ = some r → Call d 146 [vR 36, vR 2, vR 7, vI p3, vI p4, vI p5] σ (tIW r).1 (tIW r).2) {q_Way_readSides : (Int → Int → Int → xSt → Option (Int × xSt))} (hq_Way_readSides : ∀ {p3 : Int} {p4 : Int} {p5 : Int} {σ : xSt} {r : Int × xSt}, q_Way_readSides p3 p4 p5 σ = some r → Call d 147 [vR 36, vR 2, vR 7, vI p3, vI p4, vI p5] σ (tIW r).1 (tIW r).2) {g0 : Option xV} {g2 : Option xV} {g3 : Option xV} {g4 : Option xV} {g5 : Option xV} {g6 : Option xV} {g7 : Option xV} {g8 : Option xV} {g9 : Option xV} {σ : xSt} {r : Int × xSt} (hf : f_Way_readNode_108 q_Way_readNode q_Way_readSides σ = some r) : Run d 10 2 kX10_readNode (108, [g0, some (vR 2), g2, g3, g4, g5, g6, g7, g8, g9], [], σ) (tIW r) := by
  unfold f_Way_readNode_108 at hf
  refine run_seg (k := 2) (s' := (110, [g0, some (vR 2), g2, g3, g4, g5, g6, g7, g8, g9], [vI 4, vR 2], σ)) rfl ?_
  refine run_callW (w := fun a => some (vI a)) (m := 122) (as := [vR 2, vI 4]) (pc := 113) (ls := [g0, some (vR 2), g2, g3, g4, g5, g6, g7, g8, g9]) (st' := []) (σ := σ) hf rfl (fun _ _ h => (c_Tokens_fail h).mono (Nat.le_trans (by decide) hd)) (fun r18 σ19 hf => ?_)
  exact run_ret hf rfl
theorem r_Way_readNode_135 {d : Nat} (hd : 3 ≤ d) {q_Way_readNode : (Int → Int → Int → xSt → Option (Int × xSt))} (hq_Way_readNode : ∀ {p3 : Int} {p4 : Int} {p5 : Int} {σ : xSt} {r : Int × xSt}, q_Way_readNode p3 p4 p5 σ = some r → Call d 146 [vR 36, vR 2, vR 7, vI p3, vI p4, vI p5] σ (tIW r).1 (tIW r).2) {q_Way_readSides : (Int → Int → Int → xSt → Option (Int × xSt))} (hq_Way_readSides : ∀ {p3 : Int} {p4 : Int} {p5 : Int} {σ : xSt} {r : Int × xSt}, q_Way_readSides p3 p4 p5 σ = some r → Call d 147 [vR 36, vR 2, vR 7, vI p3, vI p4, vI p5] σ (tIW r).1 (tIW r).2) {l4 : Int} {l5 : Int} {l7 : Int} {s0 : Int} {g0 : Option xV} {g1 : Option xV} {g2 : Option xV} {g3 : Option xV} {g6 : Option xV} {g8 : Option xV} {g9 : Option xV} {σ : xSt} {r : Int × xSt} (hf : f_Way_readNode_135 q_Way_readNode q_Way_readSides l4 l5 l7 s0 σ = some r) : Run d 10 2 kX10_readNode (135, [g0, g1, g2, g3, some (vI l4), some (vI l5), g6, some (vI l7), g8, g9], [vI s0, vR 36], σ) (tIW r) := by
  unfold f_Way_readNode_135 at hf
  refine run_seg (k := 3) (s' := (141, [g0, g1, g2, g3, some (vI l4), some (vI l5), g6, some (vI l7), g8, g9], [vI l5, vI l4, vI l7, vI s0, vR 36], σ)) rfl ?_
  refine run_callW (w := fun a => some (vI a)) (m := 140) (as := [vR 36, vI s0, vI l7, vI l4, vI l5]) (pc := 144) (ls := [g0, g1, g2, g3, some (vI l4), some (vI l5), g6, some (vI l7), g8, g9]) (st' := []) (σ := σ) hf rfl (fun _ _ h => (c_Way_add_36 h).mono (Nat.le_trans (by decide) hd)) (fun r20 σ21 hf => ?_)
  refine run_seg (k := 2) (s' := (146, [g0, g1, g2, g3, some (vI l4), some (vI l5), g6, some (vI l7), g8, g9], [vI 1], σ21)) rfl ?_
  exact run_ret hf rfl
theorem r_Way_readNode_114 {d : Nat} (hd : 3 ≤ d) {q_Way_readNode : (Int → Int → Int → xSt → Option (Int × xSt))} (hq_Way_readNode : ∀ {p3 : Int} {p4 : Int} {p5 : Int} {σ : xSt} {r : Int × xSt}, q_Way_readNode p3 p4 p5 σ = some r → Call d 146 [vR 36, vR 2, vR 7, vI p3, vI p4, vI p5] σ (tIW r).1 (tIW r).2) {q_Way_readSides : (Int → Int → Int → xSt → Option (Int × xSt))} (hq_Way_readSides : ∀ {p3 : Int} {p4 : Int} {p5 : Int} {σ : xSt} {r : Int × xSt}, q_Way_readSides p3 p4 p5 σ = some r → Call d 147 [vR 36, vR 2, vR 7, vI p3, vI p4, vI p5] σ (tIW r).1 (tIW r).2) {l3 : Int} {l4 : Int} {l5 : Int} {l6 : Int} {l7 : Int} {l8 : Int} {g9 : Option xV} {σ : xSt} {r : Int × xSt} (hf : f_Way_readNode_114 q_Way_readNode q_Way_readSides l3 l4 l5 l6 l7 l8 σ = some r) : Run d 10 2 kX10_readNode (114, [some (vR 36), some (vR 2), some (vR 7), some (vI l3), some (vI l4), some (vI l5), some (vI l6), some (vI l7), some (vI l8), g9], [], σ) (tIW r) := by
  unfold f_Way_readNode_114 at hf
  refine run_seg (k := 1) (s' := (115, [some (vR 36), some (vR 2), some (vR 7), some (vI l3), some (vI l4), some (vI l5), some (vI l6), some (vI l7), some (vI l8), g9], [vR 2], σ)) rfl ?_
  refine run_callV (m := 116) (as := [vR 2]) (pc := 118) (ls := [some (vR 36), some (vR 2), some (vR 7), some (vI l3), some (vI l4), some (vI l5), some (vI l6), some (vI l7), some (vI l8), g9]) (st' := []) (σ := σ) hf rfl (fun _ h => (c_Tokens_step h).mono (Nat.le_trans (by decide) hd)) (fun σ9 hf => ?_)
  refine run_seg (k := 3) (s' := (if l8 = (-1) then (124, [some (vR 36), some (vR 2), some (vR 7), some (vI l3), some (vI l4), some (vI l5), some (vI l6), some (vI l7), some (vI l8), g9], [], σ9) else (147, [some (vR 36), some (vR 2), some (vR 7), some (vI l3), some (vI l4), some (vI l5), some (vI l6), some (vI l7), some (vI l8), g9], [], σ9))) rfl ?_
  refine run_ite hf (fun _ hf => ?_) (fun _ hf => ?_)
  · refine run_seg (k := 3) (s' := (if l6 = 0 then (134, [some (vR 36), some (vR 2), some (vR 7), some (vI l3), some (vI l4), some (vI l5), some (vI l6), some (vI l7), some (vI l8), g9], [vR 36], σ9) else (130, [some (vR 36), some (vR 2), some (vR 7), some (vI l3), some (vI l4), some (vI l5), some (vI l6), some (vI l7), some (vI l8), g9], [vR 36], σ9))) rfl ?_
    refine run_ite hf (fun _ hf => ?_) (fun _ hf => ?_)
    · refine run_seg (k := 1) (s' := (135, [some (vR 36), some (vR 2), some (vR 7), some (vI l3), some (vI l4), some (vI l5), some (vI l6), some (vI l7), some (vI l8), g9], [vI 0, vR 36], σ9)) rfl ?_
      exact r_Way_readNode_135 hd hq_Way_readNode hq_Way_readSides hf
    · refine run_seg (k := 2) (s' := (135, [some (vR 36), some (vR 2), some (vR 7), some (vI l3), some (vI l4), some (vI l5), some (vI l6), some (vI l7), some (vI l8), g9], [vI 1, vR 36], σ9)) rfl ?_
      exact r_Way_readNode_135 hd hq_Way_readNode hq_Way_readSides hf
  · refine run_seg (k := 8) (s' := (161, [some (vR 36), some (vR 2), some (vR 7), some (vI l3), some (vI l4), some (vI l5), some (vI l6), some (vI l7), some (vI l8), g9], [], upS σ9 36 1 (xmax (σ9 36 1) (w32 (l3 + 1))))) rfl ?_
    refine run_let (fun σ10 => (161, [some (vR 36), some (vR 2), some (vR 7), some (vI l3), some (vI l4), some (vI l5), some (vI l6), some (vI l7), some (vI l8), g9], [], σ10)) hf (fun σ10 hf => ?_)
    refine run_seg (k := 5) (s' := (169, [some (vR 36), some (vR 2), some (vR 7), some (vI l3), some (vI l4), some (vI l5), some (vI l6), some (vI l7), some (vI l8), g9], [vI l5, vI l4, vI l8, vI 2, vR 36], σ10)) rfl ?_
    refine run_callW (w := fun a => some (vI a)) (m := 140) (as := [vR 36, vI 2, vI l8, vI l4, vI l5]) (pc := 172) (ls := [some (vR 36), some (vR 2), some (vR 7), some (vI l3), some (vI l4), some (vI l5), some (vI l6), some (vI l7), some (vI l8), g9]) (st' := []) (σ := σ10) hf rfl (fun _ _ h => (c_Way_add_36 h).mono (Nat.le_trans (by decide) hd)) (fun r11 σ12 hf => ?_)
    refine run_seg (k := 3) (s' := (177, [some (vR 36), some (vR 2), some (vR 7), some (vI l3), some (vI l4), some (vI l5), some (vI l6), some (vI l7), some (vI l8), some (vI r11)], [vI 40, vR 2], σ12)) rfl ?_
    refine run_callW (w := fun a => some (vI a)) (m := 123) (as := [vR 2, vI 40]) (pc := 180) (ls := [some (vR 36), some (vR 2), some (vR 7), some (vI l3), some (vI l4), some (vI l5), some (vI l6), some (vI l7), some (vI l8), some (vI r11)]) (st' := []) (σ := σ12) hf rfl (fun _ _ h => (c_Tokens_pass h).mono (Nat.le_trans (by decide) hd)) (fun r13 σ14 hf => ?_)
    refine run_seg (k := 1) (s' := (if r13 = 0 then (207, [some (vR 36), some (vR 2), some (vR 7), some (vI l3), some (vI l4), some (vI l5), some (vI l6), some (vI l7), some (vI l8), some (vI r11)], [], σ14) else (183, [some (vR 36), some (vR 2), some (vR 7), some (vI l3), some (vI l4), some (vI l5), some (vI l6), some (vI l7), some (vI l8), some (vI r11)], [], σ14))) rfl ?_
    refine run_ite hf (fun _ hf => ?_) (fun _ hf => ?_)
    · refine run_seg (k := 1) (s' := (208, [some (vR 36), some (vR 2), some (vR 7), some (vI l3), some (vI l4), some (vI l5), some (vI l6), some (vI l7), some (vI l8), some (vI r11)], [vI 0], σ14)) rfl ?_
      exact run_ret hf rfl
    · refine run_seg (k := 9) (s' := (194, [some (vR 36), some (vR 2), some (vR 7), some (vI l3), some (vI l4), some (vI l5), some (vI l6), some (vI l7), some (vI l8), some (vI r11)], [vI l8, vR 7, vI r11, vI (w32 (l3 + 1)), vR 7, vR 2, vR 36], σ14)) rfl ?_
      refine run_callN (w := fun a => some (vI a)) (m := 89) (as := [vR 7, vI l8]) (pc := 197) (ls := [some (vR 36), some (vR 2), some (vR 7), some (vI l3), some (vI l4), some (vI l5), some (vI l6), some (vI l7), some (vI l8), some (vI r11)]) (st' := [vI r11, vI (w32 (l3 + 1)), vR 7, vR 2, vR 36]) (σ := σ14) hf rfl (fun _ h => (c_Table_sidesOf h).mono (Nat.le_trans (by decide) hd)) (fun r15 hf => ?_)
      refine run_callW (w := fun a => some (vI a)) (m := 147) (as := [vR 36, vR 2, vR 7, vI (w32 (l3 + 1)), vI r11, vI r15]) (pc := 200) (ls := [some (vR 36), some (vR 2), some (vR 7), some (vI l3), some (vI l4), some (vI l5), some (vI l6), some (vI l7), some (vI l8), some (vI r11)]) (st' := []) (σ := σ14) hf rfl (fun _ _ h => (hq_Way_readSides h)) (fun r16 σ17 hf => ?_)
      refine run_seg (k := 1) (s' := (if r16 = 0 then (207, [some (vR 36), some (vR 2), some (vR 7), some (vI l3), some (vI l4), some (vI l5), some (vI l6), some (vI l7), some (vI l8), some (vI r11)], [], σ17) else (203, [some (vR 36), some (vR 2), some (vR 7), some (vI l3), some (vI l4), some (vI l5), some (vI l6), some (vI l7), some (vI l8), some (vI r11)], [], σ17))) rfl ?_
      refine run_ite hf (fun _ hf => ?_) (fun _ hf => ?_)
      · refine run_seg (k := 1) (s' := (208, [some (vR 36), some (vR 2), some (vR 7), some (vI l3), some (vI l4), some (vI l5), some (vI l6), some (vI l7), some (vI l8), some (vI r11)], [vI 0], σ17)) rfl ?_
        exact run_ret hf rfl
      · refine run_seg (k := 2) (s' := (208, [some (vR 36), some (vR 2), some (vR 7), some (vI l3), some (vI l4), some (vI l5), some (vI l6), some (vI l7), some (vI l8), some (vI r11)], [vI 1], σ17)) rfl ?_
        exact run_ret hf rfl
theorem r_Way_readNode_87 {d : Nat} (hd : 3 ≤ d) {q_Way_readNode : (Int → Int → Int → xSt → Option (Int × xSt))} (hq_Way_readNode : ∀ {p3 : Int} {p4 : Int} {p5 : Int} {σ : xSt} {r : Int × xSt}, q_Way_readNode p3 p4 p5 σ = some r → Call d 146 [vR 36, vR 2, vR 7, vI p3, vI p4, vI p5] σ (tIW r).1 (tIW r).2) {q_Way_readSides : (Int → Int → Int → xSt → Option (Int × xSt))} (hq_Way_readSides : ∀ {p3 : Int} {p4 : Int} {p5 : Int} {σ : xSt} {r : Int × xSt}, q_Way_readSides p3 p4 p5 σ = some r → Call d 147 [vR 36, vR 2, vR 7, vI p3, vI p4, vI p5] σ (tIW r).1 (tIW r).2) {l3 : Int} {l4 : Int} {l5 : Int} {l6 : Int} {l7 : Int} {l8 : Int} {g9 : Option xV} {σ : xSt} {r : Int × xSt} (hf : f_Way_readNode_87 q_Way_readNode q_Way_readSides l3 l4 l5 l6 l7 l8 σ = some r) : Run d 10 2 kX10_readNode (87, [some (vR 36), some (vR 2), some (vR 7), some (vI l3), some (vI l4), some (vI l5), some (vI l6), some (vI l7), some (vI l8), g9], [], σ) (tIW r) := by
  unfold f_Way_readNode_87 at hf
  refine run_seg (k := 4) (s' := (if σ 36 0 < 80 then (96, [some (vR 36), some (vR 2), some (vR 7), some (vI l3), some (vI l4), some (vI l5), some (vI l6), some (vI l7), some (vI l8), g9], [], σ) else (108, [some (vR 36), some (vR 2), some (vR 7), some (vI l3), some (vI l4), some (vI l5), some (vI l6), some (vI l7), some (vI l8), g9], [], σ))) rfl ?_
  refine run_ite hf (fun _ hf => ?_) (fun _ hf => ?_)
  · refine run_seg (k := 3) (s' := (if l8 = (-1) then (114, [some (vR 36), some (vR 2), some (vR 7), some (vI l3), some (vI l4), some (vI l5), some (vI l6), some (vI l7), some (vI l8), g9], [], σ) else (102, [some (vR 36), some (vR 2), some (vR 7), some (vI l3), some (vI l4), some (vI l5), some (vI l6), some (vI l7), some (vI l8), g9], [], σ))) rfl ?_
    refine run_ite hf (fun _ hf => ?_) (fun _ hf => ?_)
    · exact r_Way_readNode_114 hd hq_Way_readNode hq_Way_readSides hf
    · refine run_seg (k := 3) (s' := (if l3 < 6 then (114, [some (vR 36), some (vR 2), some (vR 7), some (vI l3), some (vI l4), some (vI l5), some (vI l6), some (vI l7), some (vI l8), g9], [], σ) else (108, [some (vR 36), some (vR 2), some (vR 7), some (vI l3), some (vI l4), some (vI l5), some (vI l6), some (vI l7), some (vI l8), g9], [], σ))) rfl ?_
      refine run_ite hf (fun _ hf => ?_) (fun _ hf => ?_)
      · exact r_Way_readNode_114 hd hq_Way_readNode hq_Way_readSides hf
      · exact r_Way_readNode_108 hd hq_Way_readNode hq_Way_readSides hf
  · exact r_Way_readNode_108 hd hq_Way_readNode hq_Way_readSides hf
theorem r_Way_readNode_62 {d : Nat} (hd : 3 ≤ d) {q_Way_readNode : (Int → Int → Int → xSt → Option (Int × xSt))} (hq_Way_readNode : ∀ {p3 : Int} {p4 : Int} {p5 : Int} {σ : xSt} {r : Int × xSt}, q_Way_readNode p3 p4 p5 σ = some r → Call d 146 [vR 36, vR 2, vR 7, vI p3, vI p4, vI p5] σ (tIW r).1 (tIW r).2) {q_Way_readSides : (Int → Int → Int → xSt → Option (Int × xSt))} (hq_Way_readSides : ∀ {p3 : Int} {p4 : Int} {p5 : Int} {σ : xSt} {r : Int × xSt}, q_Way_readSides p3 p4 p5 σ = some r → Call d 147 [vR 36, vR 2, vR 7, vI p3, vI p4, vI p5] σ (tIW r).1 (tIW r).2) {l3 : Int} {l4 : Int} {l5 : Int} {l6 : Int} {l7 : Int} {s0 : Int} {g8 : Option xV} {g9 : Option xV} {σ : xSt} {r : Int × xSt} (hf : f_Way_readNode_62 q_Way_readNode q_Way_readSides l3 l4 l5 l6 l7 s0 σ = some r) : Run d 10 2 kX10_readNode (62, [some (vR 36), some (vR 2), some (vR 7), some (vI l3), some (vI l4), some (vI l5), some (vI l6), some (vI l7), g8, g9], [vI s0], σ) (tIW r) := by
  unfold f_Way_readNode_62 at hf
  refine run_seg (k := 3) (s' := (if l6 = 0 then (69, [some (vR 36), some (vR 2), some (vR 7), some (vI l3), some (vI l4), some (vI l5), some (vI l6), some (vI l7), some (vI s0), g9], [], σ) else (87, [some (vR 36), some (vR 2), some (vR 7), some (vI l3), some (vI l4), some (vI l5), some (vI l6), some (vI l7), some (vI s0), g9], [], σ))) rfl ?_
  refine run_ite hf (fun _ hf => ?_) (fun _ hf => ?_)
  · refine run_seg (k := 3) (s' := (if l7 = (-1) then (75, [some (vR 36), some (vR 2), some (vR 7), some (vI l3), some (vI l4), some (vI l5), some (vI l6), some (vI l7), some (vI s0), g9], [], σ) else (87, [some (vR 36), some (vR 2), some (vR 7), some (vI l3), some (vI l4), some (vI l5), some (vI l6), some (vI l7), some (vI s0), g9], [], σ))) rfl ?_
    refine run_ite hf (fun _ hf => ?_) (fun _ hf => ?_)
    · refine run_seg (k := 3) (s' := (if s0 = (-1) then (81, [some (vR 36), some (vR 2), some (vR 7), some (vI l3), some (vI l4), some (vI l5), some (vI l6), some (vI l7), some (vI s0), g9], [], σ) else (87, [some (vR 36), some (vR 2), some (vR 7), some (vI l3), some (vI l4), some (vI l5), some (vI l6), some (vI l7), some (vI s0), g9], [], σ))) rfl ?_
      refine run_ite hf (fun _ hf => ?_) (fun _ hf => ?_)
      · refine run_seg (k := 2) (s' := (83, [some (vR 36), some (vR 2), some (vR 7), some (vI l3), some (vI l4), some (vI l5), some (vI l6), some (vI l7), some (vI s0), g9], [vI 3, vR 2], σ)) rfl ?_
        refine run_callW (w := fun a => some (vI a)) (m := 122) (as := [vR 2, vI 3]) (pc := 86) (ls := [some (vR 36), some (vR 2), some (vR 7), some (vI l3), some (vI l4), some (vI l5), some (vI l6), some (vI l7), some (vI s0), g9]) (st' := []) (σ := σ) hf rfl (fun _ _ h => (c_Tokens_fail h).mono (Nat.le_trans (by decide) hd)) (fun r7 σ8 hf => ?_)
        exact run_ret hf rfl
      · exact r_Way_readNode_87 hd hq_Way_readNode hq_Way_readSides hf
    · exact r_Way_readNode_87 hd hq_Way_readNode hq_Way_readSides hf
  · exact r_Way_readNode_87 hd hq_Way_readNode hq_Way_readSides hf
theorem r_Way_readNode_43 {d : Nat} (hd : 3 ≤ d) {q_Way_readNode : (Int → Int → Int → xSt → Option (Int × xSt))} (hq_Way_readNode : ∀ {p3 : Int} {p4 : Int} {p5 : Int} {σ : xSt} {r : Int × xSt}, q_Way_readNode p3 p4 p5 σ = some r → Call d 146 [vR 36, vR 2, vR 7, vI p3, vI p4, vI p5] σ (tIW r).1 (tIW r).2) {q_Way_readSides : (Int → Int → Int → xSt → Option (Int × xSt))} (hq_Way_readSides : ∀ {p3 : Int} {p4 : Int} {p5 : Int} {σ : xSt} {r : Int × xSt}, q_Way_readSides p3 p4 p5 σ = some r → Call d 147 [vR 36, vR 2, vR 7, vI p3, vI p4, vI p5] σ (tIW r).1 (tIW r).2) {l3 : Int} {l4 : Int} {l5 : Int} {l6 : Int} {s0 : Int} {g7 : Option xV} {g8 : Option xV} {g9 : Option xV} {σ : xSt} {r : Int × xSt} (hf : f_Way_readNode_43 q_Way_readNode q_Way_readSides l3 l4 l5 l6 s0 σ = some r) : Run d 10 2 kX10_readNode (43, [some (vR 36), some (vR 2), some (vR 7), some (vI l3), some (vI l4), some (vI l5), some (vI l6), g7, g8, g9], [vI s0], σ) (tIW r) := by
  unfold f_Way_readNode_43 at hf
  refine run_seg (k := 3) (s' := (if l6 = 0 then (54, [some (vR 36), some (vR 2), some (vR 7), some (vI l3), some (vI l4), some (vI l5), some (vI l6), some (vI s0), g8, g9], [], σ) else (50, [some (vR 36), some (vR 2), some (vR 7), some (vI l3), some (vI l4), some (vI l5), some (vI l6), some (vI s0), g8, g9], [], σ))) rfl ?_
  refine run_ite hf (fun _ hf => ?_) (fun _ hf => ?_)
  · refine run_seg (k := 3) (s' := (59, [some (vR 36), some (vR 2), some (vR 7), some (vI l3), some (vI l4), some (vI l5), some (vI l6), some (vI s0), g8, g9], [vI (σ 2 7), vR 7], σ)) rfl ?_
    refine run_callN (w := fun a => some (vI a)) (m := 95) (as := [vR 7, vI (σ 2 7)]) (pc := 62) (ls := [some (vR 36), some (vR 2), some (vR 7), some (vI l3), some (vI l4), some (vI l5), some (vI l6), some (vI s0), g8, g9]) (st' := []) (σ := σ) hf rfl (fun _ h => (c_Table_thingNamed_7 h).mono (Nat.le_trans (by decide) hd)) (fun r6 hf => ?_)
    exact r_Way_readNode_62 hd hq_Way_readNode hq_Way_readSides hf
  · refine run_seg (k := 2) (s' := (62, [some (vR 36), some (vR 2), some (vR 7), some (vI l3), some (vI l4), some (vI l5), some (vI l6), some (vI s0), g8, g9], [vI (-1)], σ)) rfl ?_
    exact r_Way_readNode_62 hd hq_Way_readNode hq_Way_readSides hf
theorem r_Way_readNode_26 {d : Nat} (hd : 3 ≤ d) {q_Way_readNode : (Int → Int → Int → xSt → Option (Int × xSt))} (hq_Way_readNode : ∀ {p3 : Int} {p4 : Int} {p5 : Int} {σ : xSt} {r : Int × xSt}, q_Way_readNode p3 p4 p5 σ = some r → Call d 146 [vR 36, vR 2, vR 7, vI p3, vI p4, vI p5] σ (tIW r).1 (tIW r).2) {q_Way_readSides : (Int → Int → Int → xSt → Option (Int × xSt))} (hq_Way_readSides : ∀ {p3 : Int} {p4 : Int} {p5 : Int} {σ : xSt} {r : Int × xSt}, q_Way_readSides p3 p4 p5 σ = some r → Call d 147 [vR 36, vR 2, vR 7, vI p3, vI p4, vI p5] σ (tIW r).1 (tIW r).2) {l3 : Int} {l4 : Int} {l5 : Int} {l6 : Int} {g7 : Option xV} {g8 : Option xV} {g9 : Option xV} {σ : xSt} {r : Int × xSt} (hf : f_Way_readNode_26 q_Way_readNode q_Way_readSides l3 l4 l5 l6 σ = some r) : Run d 10 2 kX10_readNode (26, [some (vR 36), some (vR 2), some (vR 7), some (vI l3), some (vI l4), some (vI l5), some (vI l6), g7, g8, g9], [], σ) (tIW r) := by
  unfold f_Way_readNode_26 at hf
  refine run_seg (k := 2) (s' := (if l6 = 0 then (35, [some (vR 36), some (vR 2), some (vR 7), some (vI l3), some (vI l4), some (vI l5), some (vI l6), g7, g8, g9], [], σ) else (31, [some (vR 36), some (vR 2), some (vR 7), some (vI l3), some (vI l4), some (vI l5), some (vI l6), g7, g8, g9], [], σ))) rfl ?_
  refine run_ite hf (fun _ hf => ?_) (fun _ hf => ?_)
  · refine run_seg (k := 3) (s' := (40, [some (vR 36), some (vR 2), some (vR 7), some (vI l3), some (vI l4), some (vI l5), some (vI l6), g7, g8, g9], [vI (σ 2 7), vR 7], σ)) rfl ?_
    refine run_callN (w := fun a => some (vI a)) (m := 96) (as := [vR 7, vI (σ 2 7)]) (pc := 43) (ls := [some (vR 36), some (vR 2), some (vR 7), some (vI l3), some (vI l4), some (vI l5), some (vI l6), g7, g8, g9]) (st' := []) (σ := σ) hf rfl (fun _ h => (c_Table_endNamed_7 h).mono (Nat.le_trans (by decide) hd)) (fun r5 hf => ?_)
    exact r_Way_readNode_43 hd hq_Way_readNode hq_Way_readSides hf
  · refine run_seg (k := 2) (s' := (43, [some (vR 36), some (vR 2), some (vR 7), some (vI l3), some (vI l4), some (vI l5), some (vI l6), g7, g8, g9], [vI (-1)], σ)) rfl ?_
    exact r_Way_readNode_43 hd hq_Way_readNode hq_Way_readSides hf
theorem c0_Way_readNode {d : Nat} (hd : 3 ≤ d) {q_Way_readNode : (Int → Int → Int → xSt → Option (Int × xSt))} (hq_Way_readNode : ∀ {p3 : Int} {p4 : Int} {p5 : Int} {σ : xSt} {r : Int × xSt}, q_Way_readNode p3 p4 p5 σ = some r → Call d 146 [vR 36, vR 2, vR 7, vI p3, vI p4, vI p5] σ (tIW r).1 (tIW r).2) {q_Way_readSides : (Int → Int → Int → xSt → Option (Int × xSt))} (hq_Way_readSides : ∀ {p3 : Int} {p4 : Int} {p5 : Int} {σ : xSt} {r : Int × xSt}, q_Way_readSides p3 p4 p5 σ = some r → Call d 147 [vR 36, vR 2, vR 7, vI p3, vI p4, vI p5] σ (tIW r).1 (tIW r).2) {p3 : Int} {p4 : Int} {p5 : Int} {σ : xSt} {r : Int × xSt} (hf : f0_Way_readNode q_Way_readNode q_Way_readSides p3 p4 p5 σ = some r) : Call (d + 1) 146 [vR 36, vR 2, vR 7, vI p3, vI p4, vI p5] σ (tIW r).1 (tIW r).2 := by
  unfold f0_Way_readNode at hf
  refine call_of (own := 10) (rk := 2) (cd := kX10_readNode) (ls := [some (vR 36), some (vR 2), some (vR 7), some (vI p3), some (vI p4), some (vI p5), none, none, none, none]) (rT := tIW) rfl rfl rfl rfl rfl ?_
  refine run_seg (k := 2) (s' := (3, [some (vR 36), some (vR 2), some (vR 7), some (vI p3), some (vI p4), some (vI p5), none, none, none, none], [vR 155, vR 2], σ)) rfl ?_
  refine run_callN (w := fun a => some (vI a)) (m := 117) (as := [vR 2, vR 155]) (pc := 6) (ls := [some (vR 36), some (vR 2), some (vR 7), some (vI p3), some (vI p4), some (vI p5), none, none, none, none]) (st' := []) (σ := σ) hf rfl (fun _ h => (c_Tokens_is_155 h).mono (Nat.le_trans (by decide) hd)) (fun r1 hf => ?_)
  refine run_seg (k := 3) (s' := (if r1 = 0 then (13, [some (vR 36), some (vR 2), some (vR 7), some (vI p3), some (vI p4), some (vI p5), some (vI r1), none, none, none], [], σ) else (26, [some (vR 36), some (vR 2), some (vR 7), some (vI p3), some (vI p4), some (vI p5), some (vI r1), none, none, none], [], σ))) rfl ?_
  refine run_ite hf (fun _ hf => ?_) (fun _ hf => ?_)
  · refine run_seg (k := 1) (s' := (14, [some (vR 36), some (vR 2), some (vR 7), some (vI p3), some (vI p4), some (vI p5), some (vI r1), none, none, none], [vR 2], σ)) rfl ?_
    refine run_callN (w := fun a => some (vI a)) (m := 118) (as := [vR 2]) (pc := 17) (ls := [some (vR 36), some (vR 2), some (vR 7), some (vI p3), some (vI p4), some (vI p5), some (vI r1), none, none, none]) (st' := []) (σ := σ) hf rfl (fun _ h => (c_Tokens_isName h).mono (Nat.le_trans (by decide) hd)) (fun r2 hf => ?_)
    refine run_seg (k := 1) (s' := (if r2 = 0 then (20, [some (vR 36), some (vR 2), some (vR 7), some (vI p3), some (vI p4), some (vI p5), some (vI r1), none, none, none], [], σ) else (26, [some (vR 36), some (vR 2), some (vR 7), some (vI p3), some (vI p4), some (vI p5), some (vI r1), none, none, none], [], σ))) rfl ?_
    refine run_ite hf (fun _ hf => ?_) (fun _ hf => ?_)
    · refine run_seg (k := 2) (s' := (22, [some (vR 36), some (vR 2), some (vR 7), some (vI p3), some (vI p4), some (vI p5), some (vI r1), none, none, none], [vI 1, vR 2], σ)) rfl ?_
      refine run_callW (w := fun a => some (vI a)) (m := 122) (as := [vR 2, vI 1]) (pc := 25) (ls := [some (vR 36), some (vR 2), some (vR 7), some (vI p3), some (vI p4), some (vI p5), some (vI r1), none, none, none]) (st' := []) (σ := σ) hf rfl (fun _ _ h => (c_Tokens_fail h).mono (Nat.le_trans (by decide) hd)) (fun r3 σ4 hf => ?_)
      exact run_ret hf rfl
    · exact r_Way_readNode_26 hd hq_Way_readNode hq_Way_readSides hf
  · exact r_Way_readNode_26 hd hq_Way_readNode hq_Way_readSides hf
def f_Way_readSides_70 (q_Way_readNode : (Int → Int → Int → xSt → Option (Int × xSt))) (q_Way_readSides : (Int → Int → Int → xSt → Option (Int × xSt))) (k3 : (Int → Int → Int → Int → xSt → Option (Int × xSt))) (l3 : Int) (l4 : Int) (l5 : Int) (l6 : Int) (s0 : Int) (s1 : Int) (σ : xSt) : Option (Int × xSt) :=
  if s1 = s0 then (xbW (f_Tokens_fail 5 σ) fun r8 σ9 =>
  some (xnb r8, σ9))
  else (xbR (f_Tokens_step σ) fun σ10 =>
  xlet (w32 (l6 + 1)) fun x11 =>
  k3 l3 l4 l5 x11 σ10)
def f_Way_readSides_50 (q_Way_readNode : (Int → Int → Int → xSt → Option (Int × xSt))) (q_Way_readSides : (Int → Int → Int → xSt → Option (Int × xSt))) (k3 : (Int → Int → Int → Int → xSt → Option (Int × xSt))) (l3 : Int) (l4 : Int) (l5 : Int) (l6 : Int) (σ : xSt) : Option (Int × xSt) :=
  xbR (f_Tokens_isSigned 58 σ) fun r7 =>
  if l6 = w32 (l5 - 1) then (f_Way_readSides_70 q_Way_readNode q_Way_readSides (k3) l3 l4 l5 l6 1 r7 σ)
  else (f_Way_readSides_70 q_Way_readNode q_Way_readSides (k3) l3 l4 l5 l6 0 r7 σ)
def f_Way_readSides_3 (q_Way_readNode : (Int → Int → Int → xSt → Option (Int × xSt))) (q_Way_readSides : (Int → Int → Int → xSt → Option (Int × xSt))) : Nat → Int → Int → Int → Int → xSt → Option (Int × xSt)
  | 0, _, _, _, _, _ => none
  | n + 1, l3, l4, l5, l6, σ =>
    if l6 < l5 then (xbW (q_Way_readNode l3 l4 l6 σ) fun r1 σ2 =>
    if r1 = 0 then (some (0, σ2))
    else (xbR (f_Tokens_isSigned 58 σ2) fun r3 =>
    if r3 = 0 then (xbR (f_Tokens_isSigned 41 σ2) fun r4 =>
    if r4 = 0 then (xbW (f_Tokens_fail 1 σ2) fun r5 σ6 =>
    some (xnb r5, σ6))
    else (f_Way_readSides_50 q_Way_readNode q_Way_readSides (fun z0 z1 z2 z3 sz => f_Way_readSides_3 q_Way_readNode q_Way_readSides n z0 z1 z2 z3 sz) l3 l4 l5 l6 σ2))
    else (f_Way_readSides_50 q_Way_readNode q_Way_readSides (fun z0 z1 z2 z3 sz => f_Way_readSides_3 q_Way_readNode q_Way_readSides n z0 z1 z2 z3 sz) l3 l4 l5 l6 σ2)))
    else (some (1, σ))
/-- BentPenny$Way.readSides(LBentPenny$Tokens;LBentPenny$Table;III)Z -/
def f0_Way_readSides (q_Way_readNode : (Int → Int → Int → xSt → Option (Int × xSt))) (q_Way_readSides : (Int → Int → Int → xSt → Option (Int × xSt))) (p3 : Int) (p4 : Int) (p5 : Int) (σ : xSt) : Option (Int × xSt) :=
  f_Way_readSides_3 q_Way_readNode q_Way_readSides 1000000 p3 p4 p5 0 σ
theorem r_Way_readSides_70 {d : Nat} (hd : 3 ≤ d) {q_Way_readNode : (Int → Int → Int → xSt → Option (Int × xSt))} (hq_Way_readNode : ∀ {p3 : Int} {p4 : Int} {p5 : Int} {σ : xSt} {r : Int × xSt}, q_Way_readNode p3 p4 p5 σ = some r → Call d 146 [vR 36, vR 2, vR 7, vI p3, vI p4, vI p5] σ (tIW r).1 (tIW r).2) {q_Way_readSides : (Int → Int → Int → xSt → Option (Int × xSt))} (hq_Way_readSides : ∀ {p3 : Int} {p4 : Int} {p5 : Int} {σ : xSt} {r : Int × xSt}, q_Way_readSides p3 p4 p5 σ = some r → Call d 147 [vR 36, vR 2, vR 7, vI p3, vI p4, vI p5] σ (tIW r).1 (tIW r).2) {k3 : (Int → Int → Int → Int → xSt → Option (Int × xSt))} (hk3 : ∀ {l3 : Int} {l4 : Int} {l5 : Int} {l6 : Int} {σ : xSt} {r : Int × xSt}, k3 l3 l4 l5 l6 σ = some r → Run d 10 2 kX10_readSides (3, [some (vR 36), some (vR 2), some (vR 7), some (vI l3), some (vI l4), some (vI l5), some (vI l6)], [], σ) (tIW r)) {l3 : Int} {l4 : Int} {l5 : Int} {l6 : Int} {s0 : Int} {s1 : Int} {σ : xSt} {r : Int × xSt} (hf : f_Way_readSides_70 q_Way_readNode q_Way_readSides k3 l3 l4 l5 l6 s0 s1 σ = some r) : Run d 10 2 kX10_readSides (70, [some (vR 36), some (vR 2), some (vR 7), some (vI l3), some (vI l4), some (vI l5), some (vI l6)], [vI s0, vI s1], σ) (tIW r) := by
  unfold f_Way_readSides_70 at hf
  refine run_seg (k := 1) (s' := (if s1 = s0 then (73, [some (vR 36), some (vR 2), some (vR 7), some (vI l3), some (vI l4), some (vI l5), some (vI l6)], [], σ) else (79, [some (vR 36), some (vR 2), some (vR 7), some (vI l3), some (vI l4), some (vI l5), some (vI l6)], [], σ))) rfl ?_
  refine run_ite hf (fun _ hf => ?_) (fun _ hf => ?_)
  · refine run_seg (k := 2) (s' := (75, [some (vR 36), some (vR 2), some (vR 7), some (vI l3), some (vI l4), some (vI l5), some (vI l6)], [vI 5, vR 2], σ)) rfl ?_
    refine run_callW (w := fun a => some (vI a)) (m := 122) (as := [vR 2, vI 5]) (pc := 78) (ls := [some (vR 36), some (vR 2), some (vR 7), some (vI l3), some (vI l4), some (vI l5), some (vI l6)]) (st' := []) (σ := σ) hf rfl (fun _ _ h => (c_Tokens_fail h).mono (Nat.le_trans (by decide) hd)) (fun r8 σ9 hf => ?_)
    exact run_ret hf rfl
  · refine run_seg (k := 1) (s' := (80, [some (vR 36), some (vR 2), some (vR 7), some (vI l3), some (vI l4), some (vI l5), some (vI l6)], [vR 2], σ)) rfl ?_
    refine run_callV (m := 116) (as := [vR 2]) (pc := 83) (ls := [some (vR 36), some (vR 2), some (vR 7), some (vI l3), some (vI l4), some (vI l5), some (vI l6)]) (st' := []) (σ := σ) hf rfl (fun _ h => (c_Tokens_step h).mono (Nat.le_trans (by decide) hd)) (fun σ10 hf => ?_)
    refine run_seg (k := 1) (s' := (86, [some (vR 36), some (vR 2), some (vR 7), some (vI l3), some (vI l4), some (vI l5), some (vI (w32 (l6 + 1)))], [], σ10)) rfl ?_
    refine run_let (fun x11 => (86, [some (vR 36), some (vR 2), some (vR 7), some (vI l3), some (vI l4), some (vI l5), some (vI x11)], [], σ10)) hf (fun x11 hf => ?_)
    refine run_seg (k := 1) (s' := (3, [some (vR 36), some (vR 2), some (vR 7), some (vI l3), some (vI l4), some (vI l5), some (vI x11)], [], σ10)) rfl ?_
    exact hk3 hf
theorem r_Way_readSides_50 {d : Nat} (hd : 3 ≤ d) {q_Way_readNode : (Int → Int → Int → xSt → Option (Int × xSt))} (hq_Way_readNode : ∀ {p3 : Int} {p4 : Int} {p5 : Int} {σ : xSt} {r : Int × xSt}, q_Way_readNode p3 p4 p5 σ = some r → Call d 146 [vR 36, vR 2, vR 7, vI p3, vI p4, vI p5] σ (tIW r).1 (tIW r).2) {q_Way_readSides : (Int → Int → Int → xSt → Option (Int × xSt))} (hq_Way_readSides : ∀ {p3 : Int} {p4 : Int} {p5 : Int} {σ : xSt} {r : Int × xSt}, q_Way_readSides p3 p4 p5 σ = some r → Call d 147 [vR 36, vR 2, vR 7, vI p3, vI p4, vI p5] σ (tIW r).1 (tIW r).2) {k3 : (Int → Int → Int → Int → xSt → Option (Int × xSt))} (hk3 : ∀ {l3 : Int} {l4 : Int} {l5 : Int} {l6 : Int} {σ : xSt} {r : Int × xSt}, k3 l3 l4 l5 l6 σ = some r → Run d 10 2 kX10_readSides (3, [some (vR 36), some (vR 2), some (vR 7), some (vI l3), some (vI l4), some (vI l5), some (vI l6)], [], σ) (tIW r)) {l3 : Int} {l4 : Int} {l5 : Int} {l6 : Int} {σ : xSt} {r : Int × xSt} (hf : f_Way_readSides_50 q_Way_readNode q_Way_readSides k3 l3 l4 l5 l6 σ = some r) : Run d 10 2 kX10_readSides (50, [some (vR 36), some (vR 2), some (vR 7), some (vI l3), some (vI l4), some (vI l5), some (vI l6)], [], σ) (tIW r) := by
  unfold f_Way_readSides_50 at hf
  refine run_seg (k := 2) (s' := (53, [some (vR 36), some (vR 2), some (vR 7), some (vI l3), some (vI l4), some (vI l5), some (vI l6)], [vI 58, vR 2], σ)) rfl ?_
  refine run_callN (w := fun a => some (vI a)) (m := 120) (as := [vR 2, vI 58]) (pc := 56) (ls := [some (vR 36), some (vR 2), some (vR 7), some (vI l3), some (vI l4), some (vI l5), some (vI l6)]) (st' := []) (σ := σ) hf rfl (fun _ h => (c_Tokens_isSigned h).mono (Nat.le_trans (by decide) hd)) (fun r7 hf => ?_)
  refine run_seg (k := 5) (s' := (if l6 = w32 (l5 - 1) then (65, [some (vR 36), some (vR 2), some (vR 7), some (vI l3), some (vI l4), some (vI l5), some (vI l6)], [vI r7], σ) else (69, [some (vR 36), some (vR 2), some (vR 7), some (vI l3), some (vI l4), some (vI l5), some (vI l6)], [vI r7], σ))) rfl ?_
  refine run_ite hf (fun _ hf => ?_) (fun _ hf => ?_)
  · refine run_seg (k := 2) (s' := (70, [some (vR 36), some (vR 2), some (vR 7), some (vI l3), some (vI l4), some (vI l5), some (vI l6)], [vI 1, vI r7], σ)) rfl ?_
    exact r_Way_readSides_70 hd hq_Way_readNode hq_Way_readSides (hk3) hf
  · refine run_seg (k := 1) (s' := (70, [some (vR 36), some (vR 2), some (vR 7), some (vI l3), some (vI l4), some (vI l5), some (vI l6)], [vI 0, vI r7], σ)) rfl ?_
    exact r_Way_readSides_70 hd hq_Way_readNode hq_Way_readSides (hk3) hf
theorem r_Way_readSides_3 {d : Nat} (hd : 3 ≤ d) {q_Way_readNode : (Int → Int → Int → xSt → Option (Int × xSt))} (hq_Way_readNode : ∀ {p3 : Int} {p4 : Int} {p5 : Int} {σ : xSt} {r : Int × xSt}, q_Way_readNode p3 p4 p5 σ = some r → Call d 146 [vR 36, vR 2, vR 7, vI p3, vI p4, vI p5] σ (tIW r).1 (tIW r).2) {q_Way_readSides : (Int → Int → Int → xSt → Option (Int × xSt))} (hq_Way_readSides : ∀ {p3 : Int} {p4 : Int} {p5 : Int} {σ : xSt} {r : Int × xSt}, q_Way_readSides p3 p4 p5 σ = some r → Call d 147 [vR 36, vR 2, vR 7, vI p3, vI p4, vI p5] σ (tIW r).1 (tIW r).2) : ∀ (n : Nat) {l3 : Int} {l4 : Int} {l5 : Int} {l6 : Int} {σ : xSt} {r : Int × xSt}, f_Way_readSides_3 q_Way_readNode q_Way_readSides n l3 l4 l5 l6 σ = some r → Run d 10 2 kX10_readSides (3, [some (vR 36), some (vR 2), some (vR 7), some (vI l3), some (vI l4), some (vI l5), some (vI l6)], [], σ) (tIW r) := by
  intro n
  induction n with
  | zero =>
    intro _ _ _ _ _ _ h
    exact nomatch (show (none : Option (Int × xSt)) = some _ from h)
  | succ n ih =>
    intro l3 l4 l5 l6 σ r hf
    unfold f_Way_readSides_3 at hf
    refine run_seg (k := 3) (s' := (if l6 < l5 then (10, [some (vR 36), some (vR 2), some (vR 7), some (vI l3), some (vI l4), some (vI l5), some (vI l6)], [], σ) else (89, [some (vR 36), some (vR 2), some (vR 7), some (vI l3), some (vI l4), some (vI l5), some (vI l6)], [], σ))) rfl ?_
    refine run_ite hf (fun _ hf => ?_) (fun _ hf => ?_)
    · refine run_seg (k := 6) (s' := (18, [some (vR 36), some (vR 2), some (vR 7), some (vI l3), some (vI l4), some (vI l5), some (vI l6)], [vI l6, vI l4, vI l3, vR 7, vR 2, vR 36], σ)) rfl ?_
      refine run_callW (w := fun a => some (vI a)) (m := 146) (as := [vR 36, vR 2, vR 7, vI l3, vI l4, vI l6]) (pc := 21) (ls := [some (vR 36), some (vR 2), some (vR 7), some (vI l3), some (vI l4), some (vI l5), some (vI l6)]) (st' := []) (σ := σ) hf rfl (fun _ _ h => (hq_Way_readNode h)) (fun r1 σ2 hf => ?_)
      refine run_seg (k := 1) (s' := (if r1 = 0 then (24, [some (vR 36), some (vR 2), some (vR 7), some (vI l3), some (vI l4), some (vI l5), some (vI l6)], [], σ2) else (26, [some (vR 36), some (vR 2), some (vR 7), some (vI l3), some (vI l4), some (vI l5), some (vI l6)], [], σ2))) rfl ?_
      refine run_ite hf (fun _ hf => ?_) (fun _ hf => ?_)
      · refine run_seg (k := 1) (s' := (25, [some (vR 36), some (vR 2), some (vR 7), some (vI l3), some (vI l4), some (vI l5), some (vI l6)], [vI 0], σ2)) rfl ?_
        exact run_ret hf rfl
      · refine run_seg (k := 2) (s' := (29, [some (vR 36), some (vR 2), some (vR 7), some (vI l3), some (vI l4), some (vI l5), some (vI l6)], [vI 58, vR 2], σ2)) rfl ?_
        refine run_callN (w := fun a => some (vI a)) (m := 120) (as := [vR 2, vI 58]) (pc := 32) (ls := [some (vR 36), some (vR 2), some (vR 7), some (vI l3), some (vI l4), some (vI l5), some (vI l6)]) (st' := []) (σ := σ2) hf rfl (fun _ h => (c_Tokens_isSigned h).mono (Nat.le_trans (by decide) hd)) (fun r3 hf => ?_)
        refine run_seg (k := 1) (s' := (if r3 = 0 then (35, [some (vR 36), some (vR 2), some (vR 7), some (vI l3), some (vI l4), some (vI l5), some (vI l6)], [], σ2) else (50, [some (vR 36), some (vR 2), some (vR 7), some (vI l3), some (vI l4), some (vI l5), some (vI l6)], [], σ2))) rfl ?_
        refine run_ite hf (fun _ hf => ?_) (fun _ hf => ?_)
        · refine run_seg (k := 2) (s' := (38, [some (vR 36), some (vR 2), some (vR 7), some (vI l3), some (vI l4), some (vI l5), some (vI l6)], [vI 41, vR 2], σ2)) rfl ?_
          refine run_callN (w := fun a => some (vI a)) (m := 120) (as := [vR 2, vI 41]) (pc := 41) (ls := [some (vR 36), some (vR 2), some (vR 7), some (vI l3), some (vI l4), some (vI l5), some (vI l6)]) (st' := []) (σ := σ2) hf rfl (fun _ h => (c_Tokens_isSigned h).mono (Nat.le_trans (by decide) hd)) (fun r4 hf => ?_)
          refine run_seg (k := 1) (s' := (if r4 = 0 then (44, [some (vR 36), some (vR 2), some (vR 7), some (vI l3), some (vI l4), some (vI l5), some (vI l6)], [], σ2) else (50, [some (vR 36), some (vR 2), some (vR 7), some (vI l3), some (vI l4), some (vI l5), some (vI l6)], [], σ2))) rfl ?_
          refine run_ite hf (fun _ hf => ?_) (fun _ hf => ?_)
          · refine run_seg (k := 2) (s' := (46, [some (vR 36), some (vR 2), some (vR 7), some (vI l3), some (vI l4), some (vI l5), some (vI l6)], [vI 1, vR 2], σ2)) rfl ?_
            refine run_callW (w := fun a => some (vI a)) (m := 122) (as := [vR 2, vI 1]) (pc := 49) (ls := [some (vR 36), some (vR 2), some (vR 7), some (vI l3), some (vI l4), some (vI l5), some (vI l6)]) (st' := []) (σ := σ2) hf rfl (fun _ _ h => (c_Tokens_fail h).mono (Nat.le_trans (by decide) hd)) (fun r5 σ6 hf => ?_)
            exact run_ret hf rfl
          · exact r_Way_readSides_50 hd hq_Way_readNode hq_Way_readSides (fun h => ih h) hf
        · exact r_Way_readSides_50 hd hq_Way_readNode hq_Way_readSides (fun h => ih h) hf
    · refine run_seg (k := 1) (s' := (90, [some (vR 36), some (vR 2), some (vR 7), some (vI l3), some (vI l4), some (vI l5), some (vI l6)], [vI 1], σ)) rfl ?_
      exact run_ret hf rfl
theorem c0_Way_readSides {d : Nat} (hd : 3 ≤ d) {q_Way_readNode : (Int → Int → Int → xSt → Option (Int × xSt))} (hq_Way_readNode : ∀ {p3 : Int} {p4 : Int} {p5 : Int} {σ : xSt} {r : Int × xSt}, q_Way_readNode p3 p4 p5 σ = some r → Call d 146 [vR 36, vR 2, vR 7, vI p3, vI p4, vI p5] σ (tIW r).1 (tIW r).2) {q_Way_readSides : (Int → Int → Int → xSt → Option (Int × xSt))} (hq_Way_readSides : ∀ {p3 : Int} {p4 : Int} {p5 : Int} {σ : xSt} {r : Int × xSt}, q_Way_readSides p3 p4 p5 σ = some r → Call d 147 [vR 36, vR 2, vR 7, vI p3, vI p4, vI p5] σ (tIW r).1 (tIW r).2) {p3 : Int} {p4 : Int} {p5 : Int} {σ : xSt} {r : Int × xSt} (hf : f0_Way_readSides q_Way_readNode q_Way_readSides p3 p4 p5 σ = some r) : Call (d + 1) 147 [vR 36, vR 2, vR 7, vI p3, vI p4, vI p5] σ (tIW r).1 (tIW r).2 := by
  unfold f0_Way_readSides at hf
  refine call_of (own := 10) (rk := 2) (cd := kX10_readSides) (ls := [some (vR 36), some (vR 2), some (vR 7), some (vI p3), some (vI p4), some (vI p5), none]) (rT := tIW) rfl rfl rfl rfl rfl ?_
  refine run_seg (k := 2) (s' := (3, [some (vR 36), some (vR 2), some (vR 7), some (vI p3), some (vI p4), some (vI p5), some (vI 0)], [], σ)) rfl ?_
  exact r_Way_readSides_3 hd hq_Way_readNode hq_Way_readSides 1000000 hf
def g_Way_readNode : Nat → (Int → Int → Int → xSt → Option (Int × xSt)) × (Int → Int → Int → xSt → Option (Int × xSt))
  | 0 => ((fun _ _ _ _ => none), (fun _ _ _ _ => none))
  | n + 1 => ((fun p3 p4 p5 σ => f0_Way_readNode ((g_Way_readNode n).1) ((g_Way_readNode n).2) p3 p4 p5 σ), (fun p3 p4 p5 σ => f0_Way_readSides ((g_Way_readNode n).1) ((g_Way_readNode n).2) p3 p4 p5 σ))
def f_Way_readNode (n : Nat) (p3 : Int) (p4 : Int) (p5 : Int) (σ : xSt) : Option (Int × xSt) := (g_Way_readNode n).1 p3 p4 p5 σ
def f_Way_readSides (n : Nat) (p3 : Int) (p4 : Int) (p5 : Int) (σ : xSt) : Option (Int × xSt) := (g_Way_readNode n).2 p3 p4 p5 σ
theorem hg_Way_readNode : ∀ n, (∀ {p3 : Int} {p4 : Int} {p5 : Int} {σ : xSt} {r : Int × xSt}, f_Way_readNode n p3 p4 p5 σ = some r → Call (3 + n) 146 [vR 36, vR 2, vR 7, vI p3, vI p4, vI p5] σ (tIW r).1 (tIW r).2) ∧ (∀ {p3 : Int} {p4 : Int} {p5 : Int} {σ : xSt} {r : Int × xSt}, f_Way_readSides n p3 p4 p5 σ = some r → Call (3 + n) 147 [vR 36, vR 2, vR 7, vI p3, vI p4, vI p5] σ (tIW r).1 (tIW r).2) := by
  intro n
  induction n with
  | zero => exact ⟨(fun h => nomatch (show (none : Option (Int × xSt)) = some _ from h)), (fun h => nomatch (show (none : Option (Int × xSt)) = some _ from h))⟩
  | succ n ih =>
    obtain ⟨i0, i1⟩ := ih
    exact ⟨(fun h => c0_Way_readNode (Nat.le_add_right 3 n) (fun h => i0 h) (fun h => i1 h) h), (fun h => c0_Way_readSides (Nat.le_add_right 3 n) (fun h => i0 h) (fun h => i1 h) h)⟩
theorem c_Way_readNode {p3 : Int} {p4 : Int} {p5 : Int} {σ : xSt} {r : Int × xSt} (hf : f_Way_readNode 60 p3 p4 p5 σ = some r) : Call 63 146 [vR 36, vR 2, vR 7, vI p3, vI p4, vI p5] σ (tIW r).1 (tIW r).2 := ((hg_Way_readNode 60).1) hf
theorem c_Way_readSides {p3 : Int} {p4 : Int} {p5 : Int} {σ : xSt} {r : Int × xSt} (hf : f_Way_readSides 60 p3 p4 p5 σ = some r) : Call 63 147 [vR 36, vR 2, vR 7, vI p3, vI p4, vI p5] σ (tIW r).1 (tIW r).2 := ((hg_Way_readNode 60).2) hf
/-- BentPenny$Way.read(LBentPenny$Tokens;LBentPenny$Table;)Z -/
def f_Way_read (σ : xSt) : Option (Int × xSt) :=
  xbR (f_Way_clear 36 σ) fun σ1 =>
  xbW (f_Way_readNode 60 0 (-1) 0 σ1) fun r2 σ3 =>
  if r2 = 0 then (some (0, σ3))
  else (xbW (f_Tokens_isDone σ3) fun r4 σ5 =>
  if r4 = 0 then (some (0, σ5))
  else (some (1, σ5)))
theorem c_Way_read {σ : xSt} {r : Int × xSt} (hf : f_Way_read σ = some r) : Call (63 + 1) 145 [vR 36, vR 2, vR 7] σ (tIW r).1 (tIW r).2 := by
  unfold f_Way_read at hf
  refine call_of (own := 10) (rk := 2) (cd := kX10_read) (ls := [some (vR 36), some (vR 2), some (vR 7)]) (rT := tIW) rfl rfl rfl rfl rfl ?_
  refine run_seg (k := 1) (s' := (1, [some (vR 36), some (vR 2), some (vR 7)], [vR 36], σ)) rfl ?_
  refine run_callV (m := 127) (as := [vR 36]) (pc := 4) (ls := [some (vR 36), some (vR 2), some (vR 7)]) (st' := []) (σ := σ) hf rfl (fun _ h => (c_Way_clear_36 h).mono (by decide)) (fun σ1 hf => ?_)
  refine run_seg (k := 6) (s' := (10, [some (vR 36), some (vR 2), some (vR 7)], [vI 0, vI (-1), vI 0, vR 7, vR 2, vR 36], σ1)) rfl ?_
  refine run_callW (w := fun a => some (vI a)) (m := 146) (as := [vR 36, vR 2, vR 7, vI 0, vI (-1), vI 0]) (pc := 13) (ls := [some (vR 36), some (vR 2), some (vR 7)]) (st' := []) (σ := σ1) hf rfl (fun _ _ h => (c_Way_readNode h).mono (by decide)) (fun r2 σ3 hf => ?_)
  refine run_seg (k := 1) (s' := (if r2 = 0 then (27, [some (vR 36), some (vR 2), some (vR 7)], [], σ3) else (16, [some (vR 36), some (vR 2), some (vR 7)], [], σ3))) rfl ?_
  refine run_ite hf (fun _ hf => ?_) (fun _ hf => ?_)
  · refine run_seg (k := 1) (s' := (28, [some (vR 36), some (vR 2), some (vR 7)], [vI 0], σ3)) rfl ?_
    exact run_ret hf rfl
  · refine run_seg (k := 1) (s' := (17, [some (vR 36), some (vR 2), some (vR 7)], [vR 2], σ3)) rfl ?_
    refine run_callW (w := fun a => some (vI a)) (m := 125) (as := [vR 2]) (pc := 20) (ls := [some (vR 36), some (vR 2), some (vR 7)]) (st' := []) (σ := σ3) hf rfl (fun _ _ h => (c_Tokens_isDone h).mono (by decide)) (fun r4 σ5 hf => ?_)
    refine run_seg (k := 1) (s' := (if r4 = 0 then (27, [some (vR 36), some (vR 2), some (vR 7)], [], σ5) else (23, [some (vR 36), some (vR 2), some (vR 7)], [], σ5))) rfl ?_
    refine run_ite hf (fun _ hf => ?_) (fun _ hf => ?_)
    · refine run_seg (k := 1) (s' := (28, [some (vR 36), some (vR 2), some (vR 7)], [vI 0], σ5)) rfl ?_
      exact run_ret hf rfl
    · refine run_seg (k := 2) (s' := (28, [some (vR 36), some (vR 2), some (vR 7)], [vI 1], σ5)) rfl ?_
      exact run_ret hf rfl
def f_Way_copyFrom_80 (a0 : Nat) (a1 : Nat) : Nat → Int → xSt → Option (xSt)
  | 0, _, _ => none
  | n + 1, l2, σ =>
    if l2 < 480 then (if 0 ≤ l2 ∧ l2 < 480 then (
    if 0 ≤ l2 ∧ l2 < 480 then (
    xlet (upS σ (a0 + 5) l2.toNat (σ (a1 + 5) l2.toNat)) fun σ8 =>
    xlet (w32 (l2 + 1)) fun x9 =>
    f_Way_copyFrom_80 a0 a1 n x9 σ8) else none) else none)
    else (some σ)
def f_Way_copyFrom_18 (a0 : Nat) (a1 : Nat) : Nat → Int → xSt → Option (xSt)
  | 0, _, _ => none
  | n + 1, l2, σ =>
    if l2 < 80 then (if 0 ≤ l2 ∧ l2 < 80 then (
    if 0 ≤ l2 ∧ l2 < 80 then (
    xlet (upS σ (a0 + 1) l2.toNat (σ (a1 + 1) l2.toNat)) fun σ3 =>
    if 0 ≤ l2 ∧ l2 < 80 then (
    if 0 ≤ l2 ∧ l2 < 80 then (
    xlet (upS σ3 (a0 + 2) l2.toNat (σ3 (a1 + 2) l2.toNat)) fun σ4 =>
    if 0 ≤ l2 ∧ l2 < 80 then (
    if 0 ≤ l2 ∧ l2 < 80 then (
    xlet (upS σ4 (a0 + 3) l2.toNat (σ4 (a1 + 3) l2.toNat)) fun σ5 =>
    if 0 ≤ l2 ∧ l2 < 80 then (
    if 0 ≤ l2 ∧ l2 < 80 then (
    xlet (upS σ5 (a0 + 4) l2.toNat (σ5 (a1 + 4) l2.toNat)) fun σ6 =>
    xlet (w32 (l2 + 1)) fun x7 =>
    f_Way_copyFrom_18 a0 a1 n x7 σ6) else none) else none) else none) else none) else none) else none) else none) else none)
    else (f_Way_copyFrom_80 a0 a1 1000000 0 σ)
/-- BentPenny$Way.copyFrom(LBentPenny$Way;)V -/
def f_Way_copyFrom (a0 : Nat) (a1 : Nat) (σ : xSt) : Option (xSt) :=
  xlet (upS σ a0 0 (σ a1 0)) fun σ1 =>
  xlet (upS σ1 a0 1 (σ1 a1 1)) fun σ2 =>
  f_Way_copyFrom_18 a0 a1 1000000 0 σ2
theorem r_Way_copyFrom_80_16_36 : ∀ (n : Nat) {l2 : Int} {σ : xSt} {r : xSt}, f_Way_copyFrom_80 16 36 n l2 σ = some r → Run 0 10 0 kX10_copyFrom (80, [some (vR 16), some (vR 36), some (vI l2)], [], σ) (tV r) := by
  intro n
  induction n with
  | zero =>
    intro _ _ _ h
    exact nomatch (show (none : Option (xSt)) = some _ from h)
  | succ n ih =>
    intro l2 σ r hf
    unfold f_Way_copyFrom_80 at hf
    refine run_seg (k := 3) (s' := (if l2 < 480 then (87, [some (vR 16), some (vR 36), some (vI l2)], [], σ) else (105, [some (vR 16), some (vR 36), some (vI l2)], [], σ))) rfl ?_
    refine run_ite hf (fun _ hf => ?_) (fun _ hf => ?_)
    · refine run_seg (k := 6) (s' := (97, [some (vR 16), some (vR 36), some (vI l2)], [vI l2, vR 41, vI l2, vR 21], σ)) rfl ?_
      refine run_guard (s' := (98, [some (vR 16), some (vR 36), some (vI l2)], [vI (σ 41 l2.toNat), vI l2, vR 21], σ)) hf rfl (fun hf => ?_)
      refine run_guard (s' := (99, [some (vR 16), some (vR 36), some (vI l2)], [], upS σ 21 l2.toNat (σ 41 l2.toNat))) hf rfl (fun hf => ?_)
      refine run_let (fun σ8 => (99, [some (vR 16), some (vR 36), some (vI l2)], [], σ8)) hf (fun σ8 hf => ?_)
      refine run_seg (k := 1) (s' := (102, [some (vR 16), some (vR 36), some (vI (w32 (l2 + 1)))], [], σ8)) rfl ?_
      refine run_let (fun x9 => (102, [some (vR 16), some (vR 36), some (vI x9)], [], σ8)) hf (fun x9 hf => ?_)
      refine run_seg (k := 1) (s' := (80, [some (vR 16), some (vR 36), some (vI x9)], [], σ8)) rfl ?_
      exact ih hf
    · exact run_ret hf rfl
theorem r_Way_copyFrom_18_16_36 : ∀ (n : Nat) {l2 : Int} {σ : xSt} {r : xSt}, f_Way_copyFrom_18 16 36 n l2 σ = some r → Run 0 10 0 kX10_copyFrom (18, [some (vR 16), some (vR 36), some (vI l2)], [], σ) (tV r) := by
  intro n
  induction n with
  | zero =>
    intro _ _ _ h
    exact nomatch (show (none : Option (xSt)) = some _ from h)
  | succ n ih =>
    intro l2 σ r hf
    unfold f_Way_copyFrom_18 at hf
    refine run_seg (k := 3) (s' := (if l2 < 80 then (24, [some (vR 16), some (vR 36), some (vI l2)], [], σ) else (78, [some (vR 16), some (vR 36), some (vI l2)], [], σ))) rfl ?_
    refine run_ite hf (fun _ hf => ?_) (fun _ hf => ?_)
    · refine run_seg (k := 6) (s' := (34, [some (vR 16), some (vR 36), some (vI l2)], [vI l2, vR 37, vI l2, vR 17], σ)) rfl ?_
      refine run_guard (s' := (35, [some (vR 16), some (vR 36), some (vI l2)], [vI (σ 37 l2.toNat), vI l2, vR 17], σ)) hf rfl (fun hf => ?_)
      refine run_guard (s' := (36, [some (vR 16), some (vR 36), some (vI l2)], [], upS σ 17 l2.toNat (σ 37 l2.toNat))) hf rfl (fun hf => ?_)
      refine run_let (fun σ3 => (36, [some (vR 16), some (vR 36), some (vI l2)], [], σ3)) hf (fun σ3 hf => ?_)
      refine run_seg (k := 6) (s' := (46, [some (vR 16), some (vR 36), some (vI l2)], [vI l2, vR 38, vI l2, vR 18], σ3)) rfl ?_
      refine run_guard (s' := (47, [some (vR 16), some (vR 36), some (vI l2)], [vI (σ3 38 l2.toNat), vI l2, vR 18], σ3)) hf rfl (fun hf => ?_)
      refine run_guard (s' := (48, [some (vR 16), some (vR 36), some (vI l2)], [], upS σ3 18 l2.toNat (σ3 38 l2.toNat))) hf rfl (fun hf => ?_)
      refine run_let (fun σ4 => (48, [some (vR 16), some (vR 36), some (vI l2)], [], σ4)) hf (fun σ4 hf => ?_)
      refine run_seg (k := 6) (s' := (58, [some (vR 16), some (vR 36), some (vI l2)], [vI l2, vR 39, vI l2, vR 19], σ4)) rfl ?_
      refine run_guard (s' := (59, [some (vR 16), some (vR 36), some (vI l2)], [vI (σ4 39 l2.toNat), vI l2, vR 19], σ4)) hf rfl (fun hf => ?_)
      refine run_guard (s' := (60, [some (vR 16), some (vR 36), some (vI l2)], [], upS σ4 19 l2.toNat (σ4 39 l2.toNat))) hf rfl (fun hf => ?_)
      refine run_let (fun σ5 => (60, [some (vR 16), some (vR 36), some (vI l2)], [], σ5)) hf (fun σ5 hf => ?_)
      refine run_seg (k := 6) (s' := (70, [some (vR 16), some (vR 36), some (vI l2)], [vI l2, vR 40, vI l2, vR 20], σ5)) rfl ?_
      refine run_guard (s' := (71, [some (vR 16), some (vR 36), some (vI l2)], [vI (σ5 40 l2.toNat), vI l2, vR 20], σ5)) hf rfl (fun hf => ?_)
      refine run_guard (s' := (72, [some (vR 16), some (vR 36), some (vI l2)], [], upS σ5 20 l2.toNat (σ5 40 l2.toNat))) hf rfl (fun hf => ?_)
      refine run_let (fun σ6 => (72, [some (vR 16), some (vR 36), some (vI l2)], [], σ6)) hf (fun σ6 hf => ?_)
      refine run_seg (k := 1) (s' := (75, [some (vR 16), some (vR 36), some (vI (w32 (l2 + 1)))], [], σ6)) rfl ?_
      refine run_let (fun x7 => (75, [some (vR 16), some (vR 36), some (vI x7)], [], σ6)) hf (fun x7 hf => ?_)
      refine run_seg (k := 1) (s' := (18, [some (vR 16), some (vR 36), some (vI x7)], [], σ6)) rfl ?_
      exact ih hf
    · refine run_seg (k := 2) (s' := (80, [some (vR 16), some (vR 36), some (vI 0)], [], σ)) rfl ?_
      exact r_Way_copyFrom_80_16_36 1000000 hf
theorem c_Way_copyFrom_16_36 {σ : xSt} {r : xSt} (hf : f_Way_copyFrom 16 36 σ = some r) : Call (0 + 1) 128 [vR 16, vR 36] σ (tV r).1 (tV r).2 := by
  unfold f_Way_copyFrom at hf
  refine call_of (own := 10) (rk := 0) (cd := kX10_copyFrom) (ls := [some (vR 16), some (vR 36), none]) (rT := tV) rfl rfl rfl rfl rfl ?_
  refine run_seg (k := 4) (s' := (8, [some (vR 16), some (vR 36), none], [], upS σ 16 0 (σ 36 0))) rfl ?_
  refine run_let (fun σ1 => (8, [some (vR 16), some (vR 36), none], [], σ1)) hf (fun σ1 hf => ?_)
  refine run_seg (k := 4) (s' := (16, [some (vR 16), some (vR 36), none], [], upS σ1 16 1 (σ1 36 1))) rfl ?_
  refine run_let (fun σ2 => (16, [some (vR 16), some (vR 36), none], [], σ2)) hf (fun σ2 hf => ?_)
  refine run_seg (k := 2) (s' := (18, [some (vR 16), some (vR 36), some (vI 0)], [], σ2)) rfl ?_
  exact r_Way_copyFrom_18_16_36 1000000 hf
theorem r_Way_copyFrom_80_16_57 : ∀ (n : Nat) {l2 : Int} {σ : xSt} {r : xSt}, f_Way_copyFrom_80 16 57 n l2 σ = some r → Run 0 10 0 kX10_copyFrom (80, [some (vR 16), some (vR 57), some (vI l2)], [], σ) (tV r) := by
  intro n
  induction n with
  | zero =>
    intro _ _ _ h
    exact nomatch (show (none : Option (xSt)) = some _ from h)
  | succ n ih =>
    intro l2 σ r hf
    unfold f_Way_copyFrom_80 at hf
    refine run_seg (k := 3) (s' := (if l2 < 480 then (87, [some (vR 16), some (vR 57), some (vI l2)], [], σ) else (105, [some (vR 16), some (vR 57), some (vI l2)], [], σ))) rfl ?_
    refine run_ite hf (fun _ hf => ?_) (fun _ hf => ?_)
    · refine run_seg (k := 6) (s' := (97, [some (vR 16), some (vR 57), some (vI l2)], [vI l2, vR 62, vI l2, vR 21], σ)) rfl ?_
      refine run_guard (s' := (98, [some (vR 16), some (vR 57), some (vI l2)], [vI (σ 62 l2.toNat), vI l2, vR 21], σ)) hf rfl (fun hf => ?_)
      refine run_guard (s' := (99, [some (vR 16), some (vR 57), some (vI l2)], [], upS σ 21 l2.toNat (σ 62 l2.toNat))) hf rfl (fun hf => ?_)
      refine run_let (fun σ8 => (99, [some (vR 16), some (vR 57), some (vI l2)], [], σ8)) hf (fun σ8 hf => ?_)
      refine run_seg (k := 1) (s' := (102, [some (vR 16), some (vR 57), some (vI (w32 (l2 + 1)))], [], σ8)) rfl ?_
      refine run_let (fun x9 => (102, [some (vR 16), some (vR 57), some (vI x9)], [], σ8)) hf (fun x9 hf => ?_)
      refine run_seg (k := 1) (s' := (80, [some (vR 16), some (vR 57), some (vI x9)], [], σ8)) rfl ?_
      exact ih hf
    · exact run_ret hf rfl
theorem r_Way_copyFrom_18_16_57 : ∀ (n : Nat) {l2 : Int} {σ : xSt} {r : xSt}, f_Way_copyFrom_18 16 57 n l2 σ = some r → Run 0 10 0 kX10_copyFrom (18, [some (vR 16), some (vR 57), some (vI l2)], [], σ) (tV r) := by
  intro n
  induction n with
  | zero =>
    intro _ _ _ h
    exact nomatch (show (none : Option (xSt)) = some _ from h)
  | succ n ih =>
    intro l2 σ r hf
    unfold f_Way_copyFrom_18 at hf
    refine run_seg (k := 3) (s' := (if l2 < 80 then (24, [some (vR 16), some (vR 57), some (vI l2)], [], σ) else (78, [some (vR 16), some (vR 57), some (vI l2)], [], σ))) rfl ?_
    refine run_ite hf (fun _ hf => ?_) (fun _ hf => ?_)
    · refine run_seg (k := 6) (s' := (34, [some (vR 16), some (vR 57), some (vI l2)], [vI l2, vR 58, vI l2, vR 17], σ)) rfl ?_
      refine run_guard (s' := (35, [some (vR 16), some (vR 57), some (vI l2)], [vI (σ 58 l2.toNat), vI l2, vR 17], σ)) hf rfl (fun hf => ?_)
      refine run_guard (s' := (36, [some (vR 16), some (vR 57), some (vI l2)], [], upS σ 17 l2.toNat (σ 58 l2.toNat))) hf rfl (fun hf => ?_)
      refine run_let (fun σ3 => (36, [some (vR 16), some (vR 57), some (vI l2)], [], σ3)) hf (fun σ3 hf => ?_)
      refine run_seg (k := 6) (s' := (46, [some (vR 16), some (vR 57), some (vI l2)], [vI l2, vR 59, vI l2, vR 18], σ3)) rfl ?_
      refine run_guard (s' := (47, [some (vR 16), some (vR 57), some (vI l2)], [vI (σ3 59 l2.toNat), vI l2, vR 18], σ3)) hf rfl (fun hf => ?_)
      refine run_guard (s' := (48, [some (vR 16), some (vR 57), some (vI l2)], [], upS σ3 18 l2.toNat (σ3 59 l2.toNat))) hf rfl (fun hf => ?_)
      refine run_let (fun σ4 => (48, [some (vR 16), some (vR 57), some (vI l2)], [], σ4)) hf (fun σ4 hf => ?_)
      refine run_seg (k := 6) (s' := (58, [some (vR 16), some (vR 57), some (vI l2)], [vI l2, vR 60, vI l2, vR 19], σ4)) rfl ?_
      refine run_guard (s' := (59, [some (vR 16), some (vR 57), some (vI l2)], [vI (σ4 60 l2.toNat), vI l2, vR 19], σ4)) hf rfl (fun hf => ?_)
      refine run_guard (s' := (60, [some (vR 16), some (vR 57), some (vI l2)], [], upS σ4 19 l2.toNat (σ4 60 l2.toNat))) hf rfl (fun hf => ?_)
      refine run_let (fun σ5 => (60, [some (vR 16), some (vR 57), some (vI l2)], [], σ5)) hf (fun σ5 hf => ?_)
      refine run_seg (k := 6) (s' := (70, [some (vR 16), some (vR 57), some (vI l2)], [vI l2, vR 61, vI l2, vR 20], σ5)) rfl ?_
      refine run_guard (s' := (71, [some (vR 16), some (vR 57), some (vI l2)], [vI (σ5 61 l2.toNat), vI l2, vR 20], σ5)) hf rfl (fun hf => ?_)
      refine run_guard (s' := (72, [some (vR 16), some (vR 57), some (vI l2)], [], upS σ5 20 l2.toNat (σ5 61 l2.toNat))) hf rfl (fun hf => ?_)
      refine run_let (fun σ6 => (72, [some (vR 16), some (vR 57), some (vI l2)], [], σ6)) hf (fun σ6 hf => ?_)
      refine run_seg (k := 1) (s' := (75, [some (vR 16), some (vR 57), some (vI (w32 (l2 + 1)))], [], σ6)) rfl ?_
      refine run_let (fun x7 => (75, [some (vR 16), some (vR 57), some (vI x7)], [], σ6)) hf (fun x7 hf => ?_)
      refine run_seg (k := 1) (s' := (18, [some (vR 16), some (vR 57), some (vI x7)], [], σ6)) rfl ?_
      exact ih hf
    · refine run_seg (k := 2) (s' := (80, [some (vR 16), some (vR 57), some (vI 0)], [], σ)) rfl ?_
      exact r_Way_copyFrom_80_16_57 1000000 hf
theorem c_Way_copyFrom_16_57 {σ : xSt} {r : xSt} (hf : f_Way_copyFrom 16 57 σ = some r) : Call (0 + 1) 128 [vR 16, vR 57] σ (tV r).1 (tV r).2 := by
  unfold f_Way_copyFrom at hf
  refine call_of (own := 10) (rk := 0) (cd := kX10_copyFrom) (ls := [some (vR 16), some (vR 57), none]) (rT := tV) rfl rfl rfl rfl rfl ?_
  refine run_seg (k := 4) (s' := (8, [some (vR 16), some (vR 57), none], [], upS σ 16 0 (σ 57 0))) rfl ?_
  refine run_let (fun σ1 => (8, [some (vR 16), some (vR 57), none], [], σ1)) hf (fun σ1 hf => ?_)
  refine run_seg (k := 4) (s' := (16, [some (vR 16), some (vR 57), none], [], upS σ1 16 1 (σ1 57 1))) rfl ?_
  refine run_let (fun σ2 => (16, [some (vR 16), some (vR 57), none], [], σ2)) hf (fun σ2 hf => ?_)
  refine run_seg (k := 2) (s' := (18, [some (vR 16), some (vR 57), some (vI 0)], [], σ2)) rfl ?_
  exact r_Way_copyFrom_18_16_57 1000000 hf
theorem r_Way_copyFrom_80_16_77 : ∀ (n : Nat) {l2 : Int} {σ : xSt} {r : xSt}, f_Way_copyFrom_80 16 77 n l2 σ = some r → Run 0 10 0 kX10_copyFrom (80, [some (vR 16), some (vR 77), some (vI l2)], [], σ) (tV r) := by
  intro n
  induction n with
  | zero =>
    intro _ _ _ h
    exact nomatch (show (none : Option (xSt)) = some _ from h)
  | succ n ih =>
    intro l2 σ r hf
    unfold f_Way_copyFrom_80 at hf
    refine run_seg (k := 3) (s' := (if l2 < 480 then (87, [some (vR 16), some (vR 77), some (vI l2)], [], σ) else (105, [some (vR 16), some (vR 77), some (vI l2)], [], σ))) rfl ?_
    refine run_ite hf (fun _ hf => ?_) (fun _ hf => ?_)
    · refine run_seg (k := 6) (s' := (97, [some (vR 16), some (vR 77), some (vI l2)], [vI l2, vR 82, vI l2, vR 21], σ)) rfl ?_
      refine run_guard (s' := (98, [some (vR 16), some (vR 77), some (vI l2)], [vI (σ 82 l2.toNat), vI l2, vR 21], σ)) hf rfl (fun hf => ?_)
      refine run_guard (s' := (99, [some (vR 16), some (vR 77), some (vI l2)], [], upS σ 21 l2.toNat (σ 82 l2.toNat))) hf rfl (fun hf => ?_)
      refine run_let (fun σ8 => (99, [some (vR 16), some (vR 77), some (vI l2)], [], σ8)) hf (fun σ8 hf => ?_)
      refine run_seg (k := 1) (s' := (102, [some (vR 16), some (vR 77), some (vI (w32 (l2 + 1)))], [], σ8)) rfl ?_
      refine run_let (fun x9 => (102, [some (vR 16), some (vR 77), some (vI x9)], [], σ8)) hf (fun x9 hf => ?_)
      refine run_seg (k := 1) (s' := (80, [some (vR 16), some (vR 77), some (vI x9)], [], σ8)) rfl ?_
      exact ih hf
    · exact run_ret hf rfl
theorem r_Way_copyFrom_18_16_77 : ∀ (n : Nat) {l2 : Int} {σ : xSt} {r : xSt}, f_Way_copyFrom_18 16 77 n l2 σ = some r → Run 0 10 0 kX10_copyFrom (18, [some (vR 16), some (vR 77), some (vI l2)], [], σ) (tV r) := by
  intro n
  induction n with
  | zero =>
    intro _ _ _ h
    exact nomatch (show (none : Option (xSt)) = some _ from h)
  | succ n ih =>
    intro l2 σ r hf
    unfold f_Way_copyFrom_18 at hf
    refine run_seg (k := 3) (s' := (if l2 < 80 then (24, [some (vR 16), some (vR 77), some (vI l2)], [], σ) else (78, [some (vR 16), some (vR 77), some (vI l2)], [], σ))) rfl ?_
    refine run_ite hf (fun _ hf => ?_) (fun _ hf => ?_)
    · refine run_seg (k := 6) (s' := (34, [some (vR 16), some (vR 77), some (vI l2)], [vI l2, vR 78, vI l2, vR 17], σ)) rfl ?_
      refine run_guard (s' := (35, [some (vR 16), some (vR 77), some (vI l2)], [vI (σ 78 l2.toNat), vI l2, vR 17], σ)) hf rfl (fun hf => ?_)
      refine run_guard (s' := (36, [some (vR 16), some (vR 77), some (vI l2)], [], upS σ 17 l2.toNat (σ 78 l2.toNat))) hf rfl (fun hf => ?_)
      refine run_let (fun σ3 => (36, [some (vR 16), some (vR 77), some (vI l2)], [], σ3)) hf (fun σ3 hf => ?_)
      refine run_seg (k := 6) (s' := (46, [some (vR 16), some (vR 77), some (vI l2)], [vI l2, vR 79, vI l2, vR 18], σ3)) rfl ?_
      refine run_guard (s' := (47, [some (vR 16), some (vR 77), some (vI l2)], [vI (σ3 79 l2.toNat), vI l2, vR 18], σ3)) hf rfl (fun hf => ?_)
      refine run_guard (s' := (48, [some (vR 16), some (vR 77), some (vI l2)], [], upS σ3 18 l2.toNat (σ3 79 l2.toNat))) hf rfl (fun hf => ?_)
      refine run_let (fun σ4 => (48, [some (vR 16), some (vR 77), some (vI l2)], [], σ4)) hf (fun σ4 hf => ?_)
      refine run_seg (k := 6) (s' := (58, [some (vR 16), some (vR 77), some (vI l2)], [vI l2, vR 80, vI l2, vR 19], σ4)) rfl ?_
      refine run_guard (s' := (59, [some (vR 16), some (vR 77), some (vI l2)], [vI (σ4 80 l2.toNat), vI l2, vR 19], σ4)) hf rfl (fun hf => ?_)
      refine run_guard (s' := (60, [some (vR 16), some (vR 77), some (vI l2)], [], upS σ4 19 l2.toNat (σ4 80 l2.toNat))) hf rfl (fun hf => ?_)
      refine run_let (fun σ5 => (60, [some (vR 16), some (vR 77), some (vI l2)], [], σ5)) hf (fun σ5 hf => ?_)
      refine run_seg (k := 6) (s' := (70, [some (vR 16), some (vR 77), some (vI l2)], [vI l2, vR 81, vI l2, vR 20], σ5)) rfl ?_
      refine run_guard (s' := (71, [some (vR 16), some (vR 77), some (vI l2)], [vI (σ5 81 l2.toNat), vI l2, vR 20], σ5)) hf rfl (fun hf => ?_)
      refine run_guard (s' := (72, [some (vR 16), some (vR 77), some (vI l2)], [], upS σ5 20 l2.toNat (σ5 81 l2.toNat))) hf rfl (fun hf => ?_)
      refine run_let (fun σ6 => (72, [some (vR 16), some (vR 77), some (vI l2)], [], σ6)) hf (fun σ6 hf => ?_)
      refine run_seg (k := 1) (s' := (75, [some (vR 16), some (vR 77), some (vI (w32 (l2 + 1)))], [], σ6)) rfl ?_
      refine run_let (fun x7 => (75, [some (vR 16), some (vR 77), some (vI x7)], [], σ6)) hf (fun x7 hf => ?_)
      refine run_seg (k := 1) (s' := (18, [some (vR 16), some (vR 77), some (vI x7)], [], σ6)) rfl ?_
      exact ih hf
    · refine run_seg (k := 2) (s' := (80, [some (vR 16), some (vR 77), some (vI 0)], [], σ)) rfl ?_
      exact r_Way_copyFrom_80_16_77 1000000 hf
theorem c_Way_copyFrom_16_77 {σ : xSt} {r : xSt} (hf : f_Way_copyFrom 16 77 σ = some r) : Call (0 + 1) 128 [vR 16, vR 77] σ (tV r).1 (tV r).2 := by
  unfold f_Way_copyFrom at hf
  refine call_of (own := 10) (rk := 0) (cd := kX10_copyFrom) (ls := [some (vR 16), some (vR 77), none]) (rT := tV) rfl rfl rfl rfl rfl ?_
  refine run_seg (k := 4) (s' := (8, [some (vR 16), some (vR 77), none], [], upS σ 16 0 (σ 77 0))) rfl ?_
  refine run_let (fun σ1 => (8, [some (vR 16), some (vR 77), none], [], σ1)) hf (fun σ1 hf => ?_)
  refine run_seg (k := 4) (s' := (16, [some (vR 16), some (vR 77), none], [], upS σ1 16 1 (σ1 77 1))) rfl ?_
  refine run_let (fun σ2 => (16, [some (vR 16), some (vR 77), none], [], σ2)) hf (fun σ2 hf => ?_)
  refine run_seg (k := 2) (s' := (18, [some (vR 16), some (vR 77), some (vI 0)], [], σ2)) rfl ?_
  exact r_Way_copyFrom_18_16_77 1000000 hf
theorem r_Way_copyFrom_80_57_16 : ∀ (n : Nat) {l2 : Int} {σ : xSt} {r : xSt}, f_Way_copyFrom_80 57 16 n l2 σ = some r → Run 0 10 0 kX10_copyFrom (80, [some (vR 57), some (vR 16), some (vI l2)], [], σ) (tV r) := by
  intro n
  induction n with
  | zero =>
    intro _ _ _ h
    exact nomatch (show (none : Option (xSt)) = some _ from h)
  | succ n ih =>
    intro l2 σ r hf
    unfold f_Way_copyFrom_80 at hf
    refine run_seg (k := 3) (s' := (if l2 < 480 then (87, [some (vR 57), some (vR 16), some (vI l2)], [], σ) else (105, [some (vR 57), some (vR 16), some (vI l2)], [], σ))) rfl ?_
    refine run_ite hf (fun _ hf => ?_) (fun _ hf => ?_)
    · refine run_seg (k := 6) (s' := (97, [some (vR 57), some (vR 16), some (vI l2)], [vI l2, vR 21, vI l2, vR 62], σ)) rfl ?_
      refine run_guard (s' := (98, [some (vR 57), some (vR 16), some (vI l2)], [vI (σ 21 l2.toNat), vI l2, vR 62], σ)) hf rfl (fun hf => ?_)
      refine run_guard (s' := (99, [some (vR 57), some (vR 16), some (vI l2)], [], upS σ 62 l2.toNat (σ 21 l2.toNat))) hf rfl (fun hf => ?_)
      refine run_let (fun σ8 => (99, [some (vR 57), some (vR 16), some (vI l2)], [], σ8)) hf (fun σ8 hf => ?_)
      refine run_seg (k := 1) (s' := (102, [some (vR 57), some (vR 16), some (vI (w32 (l2 + 1)))], [], σ8)) rfl ?_
      refine run_let (fun x9 => (102, [some (vR 57), some (vR 16), some (vI x9)], [], σ8)) hf (fun x9 hf => ?_)
      refine run_seg (k := 1) (s' := (80, [some (vR 57), some (vR 16), some (vI x9)], [], σ8)) rfl ?_
      exact ih hf
    · exact run_ret hf rfl
theorem r_Way_copyFrom_18_57_16 : ∀ (n : Nat) {l2 : Int} {σ : xSt} {r : xSt}, f_Way_copyFrom_18 57 16 n l2 σ = some r → Run 0 10 0 kX10_copyFrom (18, [some (vR 57), some (vR 16), some (vI l2)], [], σ) (tV r) := by
  intro n
  induction n with
  | zero =>
    intro _ _ _ h
    exact nomatch (show (none : Option (xSt)) = some _ from h)
  | succ n ih =>
    intro l2 σ r hf
    unfold f_Way_copyFrom_18 at hf
    refine run_seg (k := 3) (s' := (if l2 < 80 then (24, [some (vR 57), some (vR 16), some (vI l2)], [], σ) else (78, [some (vR 57), some (vR 16), some (vI l2)], [], σ))) rfl ?_
    refine run_ite hf (fun _ hf => ?_) (fun _ hf => ?_)
    · refine run_seg (k := 6) (s' := (34, [some (vR 57), some (vR 16), some (vI l2)], [vI l2, vR 17, vI l2, vR 58], σ)) rfl ?_
      refine run_guard (s' := (35, [some (vR 57), some (vR 16), some (vI l2)], [vI (σ 17 l2.toNat), vI l2, vR 58], σ)) hf rfl (fun hf => ?_)
      refine run_guard (s' := (36, [some (vR 57), some (vR 16), some (vI l2)], [], upS σ 58 l2.toNat (σ 17 l2.toNat))) hf rfl (fun hf => ?_)
      refine run_let (fun σ3 => (36, [some (vR 57), some (vR 16), some (vI l2)], [], σ3)) hf (fun σ3 hf => ?_)
      refine run_seg (k := 6) (s' := (46, [some (vR 57), some (vR 16), some (vI l2)], [vI l2, vR 18, vI l2, vR 59], σ3)) rfl ?_
      refine run_guard (s' := (47, [some (vR 57), some (vR 16), some (vI l2)], [vI (σ3 18 l2.toNat), vI l2, vR 59], σ3)) hf rfl (fun hf => ?_)
      refine run_guard (s' := (48, [some (vR 57), some (vR 16), some (vI l2)], [], upS σ3 59 l2.toNat (σ3 18 l2.toNat))) hf rfl (fun hf => ?_)
      refine run_let (fun σ4 => (48, [some (vR 57), some (vR 16), some (vI l2)], [], σ4)) hf (fun σ4 hf => ?_)
      refine run_seg (k := 6) (s' := (58, [some (vR 57), some (vR 16), some (vI l2)], [vI l2, vR 19, vI l2, vR 60], σ4)) rfl ?_
      refine run_guard (s' := (59, [some (vR 57), some (vR 16), some (vI l2)], [vI (σ4 19 l2.toNat), vI l2, vR 60], σ4)) hf rfl (fun hf => ?_)
      refine run_guard (s' := (60, [some (vR 57), some (vR 16), some (vI l2)], [], upS σ4 60 l2.toNat (σ4 19 l2.toNat))) hf rfl (fun hf => ?_)
      refine run_let (fun σ5 => (60, [some (vR 57), some (vR 16), some (vI l2)], [], σ5)) hf (fun σ5 hf => ?_)
      refine run_seg (k := 6) (s' := (70, [some (vR 57), some (vR 16), some (vI l2)], [vI l2, vR 20, vI l2, vR 61], σ5)) rfl ?_
      refine run_guard (s' := (71, [some (vR 57), some (vR 16), some (vI l2)], [vI (σ5 20 l2.toNat), vI l2, vR 61], σ5)) hf rfl (fun hf => ?_)
      refine run_guard (s' := (72, [some (vR 57), some (vR 16), some (vI l2)], [], upS σ5 61 l2.toNat (σ5 20 l2.toNat))) hf rfl (fun hf => ?_)
      refine run_let (fun σ6 => (72, [some (vR 57), some (vR 16), some (vI l2)], [], σ6)) hf (fun σ6 hf => ?_)
      refine run_seg (k := 1) (s' := (75, [some (vR 57), some (vR 16), some (vI (w32 (l2 + 1)))], [], σ6)) rfl ?_
      refine run_let (fun x7 => (75, [some (vR 57), some (vR 16), some (vI x7)], [], σ6)) hf (fun x7 hf => ?_)
      refine run_seg (k := 1) (s' := (18, [some (vR 57), some (vR 16), some (vI x7)], [], σ6)) rfl ?_
      exact ih hf
    · refine run_seg (k := 2) (s' := (80, [some (vR 57), some (vR 16), some (vI 0)], [], σ)) rfl ?_
      exact r_Way_copyFrom_80_57_16 1000000 hf
theorem c_Way_copyFrom_57_16 {σ : xSt} {r : xSt} (hf : f_Way_copyFrom 57 16 σ = some r) : Call (0 + 1) 128 [vR 57, vR 16] σ (tV r).1 (tV r).2 := by
  unfold f_Way_copyFrom at hf
  refine call_of (own := 10) (rk := 0) (cd := kX10_copyFrom) (ls := [some (vR 57), some (vR 16), none]) (rT := tV) rfl rfl rfl rfl rfl ?_
  refine run_seg (k := 4) (s' := (8, [some (vR 57), some (vR 16), none], [], upS σ 57 0 (σ 16 0))) rfl ?_
  refine run_let (fun σ1 => (8, [some (vR 57), some (vR 16), none], [], σ1)) hf (fun σ1 hf => ?_)
  refine run_seg (k := 4) (s' := (16, [some (vR 57), some (vR 16), none], [], upS σ1 57 1 (σ1 16 1))) rfl ?_
  refine run_let (fun σ2 => (16, [some (vR 57), some (vR 16), none], [], σ2)) hf (fun σ2 hf => ?_)
  refine run_seg (k := 2) (s' := (18, [some (vR 57), some (vR 16), some (vI 0)], [], σ2)) rfl ?_
  exact r_Way_copyFrom_18_57_16 1000000 hf
theorem r_Way_copyFrom_80_77_16 : ∀ (n : Nat) {l2 : Int} {σ : xSt} {r : xSt}, f_Way_copyFrom_80 77 16 n l2 σ = some r → Run 0 10 0 kX10_copyFrom (80, [some (vR 77), some (vR 16), some (vI l2)], [], σ) (tV r) := by
  intro n
  induction n with
  | zero =>
    intro _ _ _ h
    exact nomatch (show (none : Option (xSt)) = some _ from h)
  | succ n ih =>
    intro l2 σ r hf
    unfold f_Way_copyFrom_80 at hf
    refine run_seg (k := 3) (s' := (if l2 < 480 then (87, [some (vR 77), some (vR 16), some (vI l2)], [], σ) else (105, [some (vR 77), some (vR 16), some (vI l2)], [], σ))) rfl ?_
    refine run_ite hf (fun _ hf => ?_) (fun _ hf => ?_)
    · refine run_seg (k := 6) (s' := (97, [some (vR 77), some (vR 16), some (vI l2)], [vI l2, vR 21, vI l2, vR 82], σ)) rfl ?_
      refine run_guard (s' := (98, [some (vR 77), some (vR 16), some (vI l2)], [vI (σ 21 l2.toNat), vI l2, vR 82], σ)) hf rfl (fun hf => ?_)
      refine run_guard (s' := (99, [some (vR 77), some (vR 16), some (vI l2)], [], upS σ 82 l2.toNat (σ 21 l2.toNat))) hf rfl (fun hf => ?_)
      refine run_let (fun σ8 => (99, [some (vR 77), some (vR 16), some (vI l2)], [], σ8)) hf (fun σ8 hf => ?_)
      refine run_seg (k := 1) (s' := (102, [some (vR 77), some (vR 16), some (vI (w32 (l2 + 1)))], [], σ8)) rfl ?_
      refine run_let (fun x9 => (102, [some (vR 77), some (vR 16), some (vI x9)], [], σ8)) hf (fun x9 hf => ?_)
      refine run_seg (k := 1) (s' := (80, [some (vR 77), some (vR 16), some (vI x9)], [], σ8)) rfl ?_
      exact ih hf
    · exact run_ret hf rfl
theorem r_Way_copyFrom_18_77_16 : ∀ (n : Nat) {l2 : Int} {σ : xSt} {r : xSt}, f_Way_copyFrom_18 77 16 n l2 σ = some r → Run 0 10 0 kX10_copyFrom (18, [some (vR 77), some (vR 16), some (vI l2)], [], σ) (tV r) := by
  intro n
  induction n with
  | zero =>
    intro _ _ _ h
    exact nomatch (show (none : Option (xSt)) = some _ from h)
  | succ n ih =>
    intro l2 σ r hf
    unfold f_Way_copyFrom_18 at hf
    refine run_seg (k := 3) (s' := (if l2 < 80 then (24, [some (vR 77), some (vR 16), some (vI l2)], [], σ) else (78, [some (vR 77), some (vR 16), some (vI l2)], [], σ))) rfl ?_
    refine run_ite hf (fun _ hf => ?_) (fun _ hf => ?_)
    · refine run_seg (k := 6) (s' := (34, [some (vR 77), some (vR 16), some (vI l2)], [vI l2, vR 17, vI l2, vR 78], σ)) rfl ?_
      refine run_guard (s' := (35, [some (vR 77), some (vR 16), some (vI l2)], [vI (σ 17 l2.toNat), vI l2, vR 78], σ)) hf rfl (fun hf => ?_)
      refine run_guard (s' := (36, [some (vR 77), some (vR 16), some (vI l2)], [], upS σ 78 l2.toNat (σ 17 l2.toNat))) hf rfl (fun hf => ?_)
      refine run_let (fun σ3 => (36, [some (vR 77), some (vR 16), some (vI l2)], [], σ3)) hf (fun σ3 hf => ?_)
      refine run_seg (k := 6) (s' := (46, [some (vR 77), some (vR 16), some (vI l2)], [vI l2, vR 18, vI l2, vR 79], σ3)) rfl ?_
      refine run_guard (s' := (47, [some (vR 77), some (vR 16), some (vI l2)], [vI (σ3 18 l2.toNat), vI l2, vR 79], σ3)) hf rfl (fun hf => ?_)
      refine run_guard (s' := (48, [some (vR 77), some (vR 16), some (vI l2)], [], upS σ3 79 l2.toNat (σ3 18 l2.toNat))) hf rfl (fun hf => ?_)
      refine run_let (fun σ4 => (48, [some (vR 77), some (vR 16), some (vI l2)], [], σ4)) hf (fun σ4 hf => ?_)
      refine run_seg (k := 6) (s' := (58, [some (vR 77), some (vR 16), some (vI l2)], [vI l2, vR 19, vI l2, vR 80], σ4)) rfl ?_
      refine run_guard (s' := (59, [some (vR 77), some (vR 16), some (vI l2)], [vI (σ4 19 l2.toNat), vI l2, vR 80], σ4)) hf rfl (fun hf => ?_)
      refine run_guard (s' := (60, [some (vR 77), some (vR 16), some (vI l2)], [], upS σ4 80 l2.toNat (σ4 19 l2.toNat))) hf rfl (fun hf => ?_)
      refine run_let (fun σ5 => (60, [some (vR 77), some (vR 16), some (vI l2)], [], σ5)) hf (fun σ5 hf => ?_)
      refine run_seg (k := 6) (s' := (70, [some (vR 77), some (vR 16), some (vI l2)], [vI l2, vR 20, vI l2, vR 81], σ5)) rfl ?_
      refine run_guard (s' := (71, [some (vR 77), some (vR 16), some (vI l2)], [vI (σ5 20 l2.toNat), vI l2, vR 81], σ5)) hf rfl (fun hf => ?_)
      refine run_guard (s' := (72, [some (vR 77), some (vR 16), some (vI l2)], [], upS σ5 81 l2.toNat (σ5 20 l2.toNat))) hf rfl (fun hf => ?_)
      refine run_let (fun σ6 => (72, [some (vR 77), some (vR 16), some (vI l2)], [], σ6)) hf (fun σ6 hf => ?_)
      refine run_seg (k := 1) (s' := (75, [some (vR 77), some (vR 16), some (vI (w32 (l2 + 1)))], [], σ6)) rfl ?_
      refine run_let (fun x7 => (75, [some (vR 77), some (vR 16), some (vI x7)], [], σ6)) hf (fun x7 hf => ?_)
      refine run_seg (k := 1) (s' := (18, [some (vR 77), some (vR 16), some (vI x7)], [], σ6)) rfl ?_
      exact ih hf
    · refine run_seg (k := 2) (s' := (80, [some (vR 77), some (vR 16), some (vI 0)], [], σ)) rfl ?_
      exact r_Way_copyFrom_80_77_16 1000000 hf
theorem c_Way_copyFrom_77_16 {σ : xSt} {r : xSt} (hf : f_Way_copyFrom 77 16 σ = some r) : Call (0 + 1) 128 [vR 77, vR 16] σ (tV r).1 (tV r).2 := by
  unfold f_Way_copyFrom at hf
  refine call_of (own := 10) (rk := 0) (cd := kX10_copyFrom) (ls := [some (vR 77), some (vR 16), none]) (rT := tV) rfl rfl rfl rfl rfl ?_
  refine run_seg (k := 4) (s' := (8, [some (vR 77), some (vR 16), none], [], upS σ 77 0 (σ 16 0))) rfl ?_
  refine run_let (fun σ1 => (8, [some (vR 77), some (vR 16), none], [], σ1)) hf (fun σ1 hf => ?_)
  refine run_seg (k := 4) (s' := (16, [some (vR 77), some (vR 16), none], [], upS σ1 77 1 (σ1 16 1))) rfl ?_
  refine run_let (fun σ2 => (16, [some (vR 77), some (vR 16), none], [], σ2)) hf (fun σ2 hf => ?_)
  refine run_seg (k := 2) (s' := (18, [some (vR 77), some (vR 16), some (vI 0)], [], σ2)) rfl ?_
  exact r_Way_copyFrom_18_77_16 1000000 hf
/-- BentPenny.way()I -/
def f_X_way (σ : xSt) : Option (Int × xSt) :=
  xbW (f_X_takeTape σ) fun r1 σ2 =>
  xbR (f_Tokens_begin r1 600 σ2) fun σ3 =>
  xbW (f_Way_read σ3) fun r4 σ5 =>
  xlet (upS σ5 0 3 (σ5 2 9)) fun σ6 =>
  if r4 = 0 then (some (w32 ((-1) - (σ6 2 10)), σ6))
  else (xbR (f_Way_copyFrom 16 36 σ6) fun σ7 =>
  some (σ7 16 0, σ7))
theorem c_X_way {σ : xSt} {r : Int × xSt} (hf : f_X_way σ = some r) : Call (64 + 1) 159 [vR 0] σ (tIW r).1 (tIW r).2 := by
  unfold f_X_way at hf
  refine call_of (own := 11) (rk := 1) (cd := kX11_way) (ls := [some (vR 0), none]) (rT := tIW) rfl rfl rfl rfl rfl ?_
  refine run_seg (k := 3) (s' := (5, [some (vR 0), none], [vR 0, vR 2], σ)) rfl ?_
  refine run_callW (w := fun a => some (vI a)) (m := 152) (as := [vR 0]) (pc := 8) (ls := [some (vR 0), none]) (st' := [vR 2]) (σ := σ) hf rfl (fun _ _ h => (c_X_takeTape h).mono (by decide)) (fun r1 σ2 hf => ?_)
  refine run_seg (k := 1) (s' := (11, [some (vR 0), none], [vI 600, vI r1, vR 2], σ2)) rfl ?_
  refine run_callV (m := 107) (as := [vR 2, vI r1, vI 600]) (pc := 14) (ls := [some (vR 0), none]) (st' := []) (σ := σ2) hf rfl (fun _ h => (c_Tokens_begin h).mono (by decide)) (fun σ3 hf => ?_)
  refine run_seg (k := 8) (s' := (32, [some (vR 0), none], [vR 7, vR 2, vR 36], σ3)) rfl ?_
  refine run_callW (w := fun a => some (vI a)) (m := 145) (as := [vR 36, vR 2, vR 7]) (pc := 35) (ls := [some (vR 0), none]) (st' := []) (σ := σ3) hf rfl (fun _ _ h => (c_Way_read h).mono (by decide)) (fun r4 σ5 hf => ?_)
  refine run_seg (k := 6) (s' := (47, [some (vR 0), some (vI r4)], [], upS σ5 0 3 (σ5 2 9))) rfl ?_
  refine run_let (fun σ6 => (47, [some (vR 0), some (vI r4)], [], σ6)) hf (fun σ6 hf => ?_)
  refine run_seg (k := 2) (s' := (if r4 = 0 then (51, [some (vR 0), some (vI r4)], [], σ6) else (61, [some (vR 0), some (vI r4)], [], σ6))) rfl ?_
  refine run_ite hf (fun _ hf => ?_) (fun _ hf => ?_)
  · refine run_seg (k := 5) (s' := (60, [some (vR 0), some (vI r4)], [vI (w32 ((-1) - (σ6 2 10)))], σ6)) rfl ?_
    exact run_ret hf rfl
  · refine run_seg (k := 6) (s' := (75, [some (vR 0), some (vI r4)], [vR 36, vR 16], σ6)) rfl ?_
    refine run_callV (m := 128) (as := [vR 16, vR 36]) (pc := 78) (ls := [some (vR 0), some (vI r4)]) (st' := []) (σ := σ6) hf rfl (fun _ h => (c_Way_copyFrom_16_36 h).mono (by decide)) (fun σ7 hf => ?_)
    refine run_seg (k := 4) (s' := (88, [some (vR 0), some (vI r4)], [vI (σ7 16 0)], σ7)) rfl ?_
    exact run_ret hf rfl
/-- BentPenny$Way.sortAt(I)I -/
def f_Way_sortAt (p1 : Int) (σ : xSt) : Option (Int) :=
  xbR (f_Way_hasNode 16 p1 σ) fun r1 =>
  if r1 = 0 then (some (-1))
  else (if 0 ≤ p1 ∧ p1 < 80 then (
  some (σ 17 p1.toNat)) else none)
theorem c_Way_sortAt {p1 : Int} {σ : xSt} {r : Int} (hf : f_Way_sortAt p1 σ = some r) : Call (1 + 1) 131 [vR 16, vI p1] σ ((tI σ) r).1 ((tI σ) r).2 := by
  unfold f_Way_sortAt at hf
  refine call_of (own := 10) (rk := 1) (cd := kX10_sortAt) (ls := [some (vR 16), some (vI p1)]) (rT := (tI σ)) rfl rfl rfl rfl rfl ?_
  refine run_seg (k := 2) (s' := (2, [some (vR 16), some (vI p1)], [vI p1, vR 16], σ)) rfl ?_
  refine run_callN (w := fun a => some (vI a)) (m := 130) (as := [vR 16, vI p1]) (pc := 5) (ls := [some (vR 16), some (vI p1)]) (st' := []) (σ := σ) hf rfl (fun _ h => (c_Way_hasNode_16 h).mono (by decide)) (fun r1 hf => ?_)
  refine run_seg (k := 1) (s' := (if r1 = 0 then (17, [some (vR 16), some (vI p1)], [], σ) else (8, [some (vR 16), some (vI p1)], [], σ))) rfl ?_
  refine run_ite hf (fun _ hf => ?_) (fun _ hf => ?_)
  · refine run_seg (k := 1) (s' := (18, [some (vR 16), some (vI p1)], [vI (-1)], σ)) rfl ?_
    exact run_ret hf rfl
  · refine run_seg (k := 3) (s' := (13, [some (vR 16), some (vI p1)], [vI p1, vR 17], σ)) rfl ?_
    refine run_guard (s' := (14, [some (vR 16), some (vI p1)], [vI (σ 17 p1.toNat)], σ)) hf rfl (fun hf => ?_)
    refine run_seg (k := 1) (s' := (18, [some (vR 16), some (vI p1)], [vI (σ 17 p1.toNat)], σ)) rfl ?_
    exact run_ret hf rfl
/-- BentPenny.node(I)I -/
def f_X_node (p1 : Int) (σ : xSt) : Option (Int) :=
  xbR (f_Way_sortAt p1 σ) fun r1 =>
  some r1
theorem c_X_node {p1 : Int} {σ : xSt} {r : Int} (hf : f_X_node p1 σ = some r) : Call (2 + 1) 160 [vR 0, vI p1] σ ((tI σ) r).1 ((tI σ) r).2 := by
  unfold f_X_node at hf
  refine call_of (own := 11) (rk := 1) (cd := kX11_node) (ls := [some (vR 0), some (vI p1)]) (rT := (tI σ)) rfl rfl rfl rfl rfl ?_
  refine run_seg (k := 4) (s' := (8, [some (vR 0), some (vI p1)], [vI p1, vR 16], σ)) rfl ?_
  refine run_callN (w := fun a => some (vI a)) (m := 131) (as := [vR 16, vI p1]) (pc := 11) (ls := [some (vR 0), some (vI p1)]) (st' := []) (σ := σ) hf rfl (fun _ h => (c_Way_sortAt h).mono (by decide)) (fun r1 hf => ?_)
  exact run_ret hf rfl
/-- BentPenny$Way.whichAt(I)I -/
def f_Way_whichAt (p1 : Int) (σ : xSt) : Option (Int) :=
  xbR (f_Way_hasNode 16 p1 σ) fun r1 =>
  if r1 = 0 then (some (-1))
  else (if 0 ≤ p1 ∧ p1 < 80 then (
  some (σ 18 p1.toNat)) else none)
theorem c_Way_whichAt {p1 : Int} {σ : xSt} {r : Int} (hf : f_Way_whichAt p1 σ = some r) : Call (1 + 1) 132 [vR 16, vI p1] σ ((tI σ) r).1 ((tI σ) r).2 := by
  unfold f_Way_whichAt at hf
  refine call_of (own := 10) (rk := 1) (cd := kX10_whichAt) (ls := [some (vR 16), some (vI p1)]) (rT := (tI σ)) rfl rfl rfl rfl rfl ?_
  refine run_seg (k := 2) (s' := (2, [some (vR 16), some (vI p1)], [vI p1, vR 16], σ)) rfl ?_
  refine run_callN (w := fun a => some (vI a)) (m := 130) (as := [vR 16, vI p1]) (pc := 5) (ls := [some (vR 16), some (vI p1)]) (st' := []) (σ := σ) hf rfl (fun _ h => (c_Way_hasNode_16 h).mono (by decide)) (fun r1 hf => ?_)
  refine run_seg (k := 1) (s' := (if r1 = 0 then (17, [some (vR 16), some (vI p1)], [], σ) else (8, [some (vR 16), some (vI p1)], [], σ))) rfl ?_
  refine run_ite hf (fun _ hf => ?_) (fun _ hf => ?_)
  · refine run_seg (k := 1) (s' := (18, [some (vR 16), some (vI p1)], [vI (-1)], σ)) rfl ?_
    exact run_ret hf rfl
  · refine run_seg (k := 3) (s' := (13, [some (vR 16), some (vI p1)], [vI p1, vR 18], σ)) rfl ?_
    refine run_guard (s' := (14, [some (vR 16), some (vI p1)], [vI (σ 18 p1.toNat)], σ)) hf rfl (fun hf => ?_)
    refine run_seg (k := 1) (s' := (18, [some (vR 16), some (vI p1)], [vI (σ 18 p1.toNat)], σ)) rfl ?_
    exact run_ret hf rfl
/-- BentPenny.nodeOf(I)I -/
def f_X_nodeOf (p1 : Int) (σ : xSt) : Option (Int) :=
  xbR (f_Way_whichAt p1 σ) fun r1 =>
  some r1
theorem c_X_nodeOf {p1 : Int} {σ : xSt} {r : Int} (hf : f_X_nodeOf p1 σ = some r) : Call (2 + 1) 161 [vR 0, vI p1] σ ((tI σ) r).1 ((tI σ) r).2 := by
  unfold f_X_nodeOf at hf
  refine call_of (own := 11) (rk := 1) (cd := kX11_nodeOf) (ls := [some (vR 0), some (vI p1)]) (rT := (tI σ)) rfl rfl rfl rfl rfl ?_
  refine run_seg (k := 4) (s' := (8, [some (vR 0), some (vI p1)], [vI p1, vR 16], σ)) rfl ?_
  refine run_callN (w := fun a => some (vI a)) (m := 132) (as := [vR 16, vI p1]) (pc := 11) (ls := [some (vR 0), some (vI p1)]) (st' := []) (σ := σ) hf rfl (fun _ h => (c_Way_whichAt h).mono (by decide)) (fun r1 hf => ?_)
  exact run_ret hf rfl
/-- BentPenny$Way.nextAt(II)I -/
def f_Way_nextAt (p1 : Int) (p2 : Int) (σ : xSt) : Option (Int) :=
  xbR (f_Way_hasNode 16 p1 σ) fun r1 =>
  if r1 = 0 then (some (-1))
  else (xbR (f_X_isWithin p2 6 σ) fun r2 =>
  if r2 = 0 then (some (-1))
  else (if 0 ≤ w32 ((w32 (p1 * 6)) + p2) ∧ w32 ((w32 (p1 * 6)) + p2) < 480 then (
  some (σ 21 (w32 ((w32 (p1 * 6)) + p2)).toNat)) else none))
theorem c_Way_nextAt {p1 : Int} {p2 : Int} {σ : xSt} {r : Int} (hf : f_Way_nextAt p1 p2 σ = some r) : Call (1 + 1) 135 [vR 16, vI p1, vI p2] σ ((tI σ) r).1 ((tI σ) r).2 := by
  unfold f_Way_nextAt at hf
  refine call_of (own := 10) (rk := 1) (cd := kX10_nextAt) (ls := [some (vR 16), some (vI p1), some (vI p2)]) (rT := (tI σ)) rfl rfl rfl rfl rfl ?_
  refine run_seg (k := 2) (s' := (2, [some (vR 16), some (vI p1), some (vI p2)], [vI p1, vR 16], σ)) rfl ?_
  refine run_callN (w := fun a => some (vI a)) (m := 130) (as := [vR 16, vI p1]) (pc := 5) (ls := [some (vR 16), some (vI p1), some (vI p2)]) (st' := []) (σ := σ) hf rfl (fun _ h => (c_Way_hasNode_16 h).mono (by decide)) (fun r1 hf => ?_)
  refine run_seg (k := 1) (s' := (if r1 = 0 then (31, [some (vR 16), some (vI p1), some (vI p2)], [], σ) else (8, [some (vR 16), some (vI p1), some (vI p2)], [], σ))) rfl ?_
  refine run_ite hf (fun _ hf => ?_) (fun _ hf => ?_)
  · refine run_seg (k := 1) (s' := (32, [some (vR 16), some (vI p1), some (vI p2)], [vI (-1)], σ)) rfl ?_
    exact run_ret hf rfl
  · refine run_seg (k := 2) (s' := (11, [some (vR 16), some (vI p1), some (vI p2)], [vI 6, vI p2], σ)) rfl ?_
    refine run_callN (w := fun a => some (vI a)) (m := 207) (as := [vI p2, vI 6]) (pc := 14) (ls := [some (vR 16), some (vI p1), some (vI p2)]) (st' := []) (σ := σ) hf rfl (fun _ h => (c_X_isWithin h).mono (by decide)) (fun r2 hf => ?_)
    refine run_seg (k := 1) (s' := (if r2 = 0 then (31, [some (vR 16), some (vI p1), some (vI p2)], [], σ) else (17, [some (vR 16), some (vI p1), some (vI p2)], [], σ))) rfl ?_
    refine run_ite hf (fun _ hf => ?_) (fun _ hf => ?_)
    · refine run_seg (k := 1) (s' := (32, [some (vR 16), some (vI p1), some (vI p2)], [vI (-1)], σ)) rfl ?_
      exact run_ret hf rfl
    · refine run_seg (k := 7) (s' := (27, [some (vR 16), some (vI p1), some (vI p2)], [vI (w32 ((w32 (p1 * 6)) + p2)), vR 21], σ)) rfl ?_
      refine run_guard (s' := (28, [some (vR 16), some (vI p1), some (vI p2)], [vI (σ 21 (w32 ((w32 (p1 * 6)) + p2)).toNat)], σ)) hf rfl (fun hf => ?_)
      refine run_seg (k := 1) (s' := (32, [some (vR 16), some (vI p1), some (vI p2)], [vI (σ 21 (w32 ((w32 (p1 * 6)) + p2)).toNat)], σ)) rfl ?_
      exact run_ret hf rfl
/-- BentPenny.next(II)I -/
def f_X_next (p1 : Int) (p2 : Int) (σ : xSt) : Option (Int) :=
  xbR (f_Way_nextAt p1 p2 σ) fun r1 =>
  some r1
theorem c_X_next {p1 : Int} {p2 : Int} {σ : xSt} {r : Int} (hf : f_X_next p1 p2 σ = some r) : Call (2 + 1) 162 [vR 0, vI p1, vI p2] σ ((tI σ) r).1 ((tI σ) r).2 := by
  unfold f_X_next at hf
  refine call_of (own := 11) (rk := 1) (cd := kX11_next) (ls := [some (vR 0), some (vI p1), some (vI p2)]) (rT := (tI σ)) rfl rfl rfl rfl rfl ?_
  refine run_seg (k := 5) (s' := (9, [some (vR 0), some (vI p1), some (vI p2)], [vI p2, vI p1, vR 16], σ)) rfl ?_
  refine run_callN (w := fun a => some (vI a)) (m := 135) (as := [vR 16, vI p1, vI p2]) (pc := 12) (ls := [some (vR 0), some (vI p1), some (vI p2)]) (st' := []) (σ := σ) hf rfl (fun _ h => (c_Way_nextAt h).mono (by decide)) (fun r1 hf => ?_)
  exact run_ret hf rfl
/-- BentPenny.deep()I -/
def f_X_deep (σ : xSt) : Option (Int) :=
  some (σ 16 1)
theorem c_X_deep {σ : xSt} {r : Int} (hf : f_X_deep σ = some r) : Call (0 + 1) 163 [vR 0] σ ((tI σ) r).1 ((tI σ) r).2 := by
  unfold f_X_deep at hf
  refine call_of (own := 11) (rk := 1) (cd := kX11_deep) (ls := [some (vR 0)]) (rT := (tI σ)) rfl rfl rfl rfl rfl ?_
  refine run_seg (k := 4) (s' := (10, [some (vR 0)], [vI (σ 16 1)], σ)) rfl ?_
  exact run_ret hf rfl
def f_Way_hasThing_2 : Nat → Int → Int → xSt → Option (Int)
  | 0, _, _, _ => none
  | n + 1, l1, l2, σ =>
    if l2 < σ 16 0 then (xbR (f_Way_sortAt l2 σ) fun r1 =>
    if r1 = 2 then (xbR (f_Way_whichAt l2 σ) fun r2 =>
    if r2 = l1 then (some 1)
    else (xlet (w32 (l2 + 1)) fun x3 =>
    f_Way_hasThing_2 n l1 x3 σ))
    else (xlet (w32 (l2 + 1)) fun x4 =>
    f_Way_hasThing_2 n l1 x4 σ))
    else (some 0)
/-- BentPenny$Way.hasThing(I)Z -/
def f_Way_hasThing (p1 : Int) (σ : xSt) : Option (Int) :=
  f_Way_hasThing_2 1000000 p1 0 σ
theorem r_Way_hasThing_2 : ∀ (n : Nat) {l1 : Int} {l2 : Int} {σ : xSt} {r : Int}, f_Way_hasThing_2 n l1 l2 σ = some r → Run 2 10 2 kX10_hasThing (2, [some (vR 16), some (vI l1), some (vI l2)], [], σ) ((tI σ) r) := by
  intro n
  induction n with
  | zero =>
    intro _ _ _ _ h
    exact nomatch (show (none : Option (Int)) = some _ from h)
  | succ n ih =>
    intro l1 l2 σ r hf
    unfold f_Way_hasThing_2 at hf
    refine run_seg (k := 4) (s' := (if l2 < σ 16 0 then (10, [some (vR 16), some (vI l1), some (vI l2)], [], σ) else (36, [some (vR 16), some (vI l1), some (vI l2)], [], σ))) rfl ?_
    refine run_ite hf (fun _ hf => ?_) (fun _ hf => ?_)
    · refine run_seg (k := 2) (s' := (12, [some (vR 16), some (vI l1), some (vI l2)], [vI l2, vR 16], σ)) rfl ?_
      refine run_callN (w := fun a => some (vI a)) (m := 131) (as := [vR 16, vI l2]) (pc := 15) (ls := [some (vR 16), some (vI l1), some (vI l2)]) (st' := []) (σ := σ) hf rfl (fun _ h => (c_Way_sortAt h).mono (by decide)) (fun r1 hf => ?_)
      refine run_seg (k := 2) (s' := (if r1 = 2 then (19, [some (vR 16), some (vI l1), some (vI l2)], [], σ) else (30, [some (vR 16), some (vI l1), some (vI l2)], [], σ))) rfl ?_
      refine run_ite hf (fun _ hf => ?_) (fun _ hf => ?_)
      · refine run_seg (k := 2) (s' := (21, [some (vR 16), some (vI l1), some (vI l2)], [vI l2, vR 16], σ)) rfl ?_
        refine run_callN (w := fun a => some (vI a)) (m := 132) (as := [vR 16, vI l2]) (pc := 24) (ls := [some (vR 16), some (vI l1), some (vI l2)]) (st' := []) (σ := σ) hf rfl (fun _ h => (c_Way_whichAt h).mono (by decide)) (fun r2 hf => ?_)
        refine run_seg (k := 2) (s' := (if r2 = l1 then (28, [some (vR 16), some (vI l1), some (vI l2)], [], σ) else (30, [some (vR 16), some (vI l1), some (vI l2)], [], σ))) rfl ?_
        refine run_ite hf (fun _ hf => ?_) (fun _ hf => ?_)
        · refine run_seg (k := 1) (s' := (29, [some (vR 16), some (vI l1), some (vI l2)], [vI 1], σ)) rfl ?_
          exact run_ret hf rfl
        · refine run_seg (k := 1) (s' := (33, [some (vR 16), some (vI l1), some (vI (w32 (l2 + 1)))], [], σ)) rfl ?_
          refine run_let (fun x3 => (33, [some (vR 16), some (vI l1), some (vI x3)], [], σ)) hf (fun x3 hf => ?_)
          refine run_seg (k := 1) (s' := (2, [some (vR 16), some (vI l1), some (vI x3)], [], σ)) rfl ?_
          exact ih hf
      · refine run_seg (k := 1) (s' := (33, [some (vR 16), some (vI l1), some (vI (w32 (l2 + 1)))], [], σ)) rfl ?_
        refine run_let (fun x4 => (33, [some (vR 16), some (vI l1), some (vI x4)], [], σ)) hf (fun x4 hf => ?_)
        refine run_seg (k := 1) (s' := (2, [some (vR 16), some (vI l1), some (vI x4)], [], σ)) rfl ?_
        exact ih hf
    · refine run_seg (k := 1) (s' := (37, [some (vR 16), some (vI l1), some (vI l2)], [vI 0], σ)) rfl ?_
      exact run_ret hf rfl
theorem c_Way_hasThing {p1 : Int} {σ : xSt} {r : Int} (hf : f_Way_hasThing p1 σ = some r) : Call (2 + 1) 138 [vR 16, vI p1] σ ((tI σ) r).1 ((tI σ) r).2 := by
  unfold f_Way_hasThing at hf
  refine call_of (own := 10) (rk := 2) (cd := kX10_hasThing) (ls := [some (vR 16), some (vI p1), none]) (rT := (tI σ)) rfl rfl rfl rfl rfl ?_
  refine run_seg (k := 2) (s' := (2, [some (vR 16), some (vI p1), some (vI 0)], [], σ)) rfl ?_
  exact r_Way_hasThing_2 1000000 hf
/-- BentPenny$Way.isTold()Z -/
def f_Way_isTold (σ : xSt) : Option (Int) :=
  if 0 < σ 16 0 then (some 1)
  else (some 0)
theorem c_Way_isTold {σ : xSt} {r : Int} (hf : f_Way_isTold σ = some r) : Call (0 + 1) 129 [vR 16] σ ((tI σ) r).1 ((tI σ) r).2 := by
  unfold f_Way_isTold at hf
  refine call_of (own := 10) (rk := 2) (cd := kX10_isTold) (ls := [some (vR 16)]) (rT := (tI σ)) rfl rfl rfl rfl rfl ?_
  refine run_seg (k := 3) (s' := (if 0 < σ 16 0 then (7, [some (vR 16)], [], σ) else (11, [some (vR 16)], [], σ))) rfl ?_
  refine run_ite hf (fun _ hf => ?_) (fun _ hf => ?_)
  · refine run_seg (k := 2) (s' := (12, [some (vR 16)], [vI 1], σ)) rfl ?_
    exact run_ret hf rfl
  · refine run_seg (k := 1) (s' := (12, [some (vR 16)], [vI 0], σ)) rfl ?_
    exact run_ret hf rfl
/-- BentPenny$Odds.wholeOf(LBentPenny$Table;I)I -/
def f_Odds_wholeOf (p2 : Int) (σ : xSt) : Option (Int) :=
  if p2 = σ 7 3 then (some (σ 87 12))
  else (xbR (f_Table_allParts p2 σ) fun r1 =>
  some r1)
theorem c_Odds_wholeOf {p2 : Int} {σ : xSt} {r : Int} (hf : f_Odds_wholeOf p2 σ = some r) : Call (2 + 1) 44 [vR 87, vR 7, vI p2] σ ((tI σ) r).1 ((tI σ) r).2 := by
  unfold f_Odds_wholeOf at hf
  refine call_of (own := 4) (rk := 1) (cd := kX4_wholeOf) (ls := [some (vR 87), some (vR 7), some (vI p2)]) (rT := (tI σ)) rfl rfl rfl rfl rfl ?_
  refine run_seg (k := 4) (s' := (if p2 = σ 7 3 then (8, [some (vR 87), some (vR 7), some (vI p2)], [], σ) else (15, [some (vR 87), some (vR 7), some (vI p2)], [], σ))) rfl ?_
  refine run_ite hf (fun _ hf => ?_) (fun _ hf => ?_)
  · refine run_seg (k := 3) (s' := (20, [some (vR 87), some (vR 7), some (vI p2)], [vI (σ 87 12)], σ)) rfl ?_
    exact run_ret hf rfl
  · refine run_seg (k := 2) (s' := (17, [some (vR 87), some (vR 7), some (vI p2)], [vI p2, vR 7], σ)) rfl ?_
    refine run_callN (w := fun a => some (vI a)) (m := 90) (as := [vR 7, vI p2]) (pc := 20) (ls := [some (vR 87), some (vR 7), some (vI p2)]) (st' := []) (σ := σ) hf rfl (fun _ h => (c_Table_allParts h).mono (by decide)) (fun r1 hf => ?_)
    exact run_ret hf rfl
def f_Fraction_power_5 : Nat → Int → Int → Int → Int → xSt → Option (Int)
  | 0, _, _, _, _, _ => none
  | n + 1, l0, l2, l3, l5, σ =>
    if l5 < l2 then (xlet (w64 (l3 * l0)) fun x1 =>
    xlet (w32 (l5 + 1)) fun x2 =>
    f_Fraction_power_5 n l0 l2 x1 x2 σ)
    else (some l3)
/-- BentPenny$Fraction.power(JI)J -/
def f_Fraction_power (p0 : Int) (p1 : Int) (σ : xSt) : Option (Int) :=
  f_Fraction_power_5 1000000 p0 p1 1 0 σ
theorem r_Fraction_power_5 : ∀ (n : Nat) {l0 : Int} {l2 : Int} {l3 : Int} {l5 : Int} {σ : xSt} {r : Int}, f_Fraction_power_5 n l0 l2 l3 l5 σ = some r → Run 0 2 3 kX2_power (5, [some (vL l0), none, some (vI l2), some (vL l3), none, some (vI l5)], [], σ) ((tL σ) r) := by
  intro n
  induction n with
  | zero =>
    intro _ _ _ _ _ _ h
    exact nomatch (show (none : Option (Int)) = some _ from h)
  | succ n ih =>
    intro l0 l2 l3 l5 σ r hf
    unfold f_Fraction_power_5 at hf
    refine run_seg (k := 3) (s' := (if l5 < l2 then (11, [some (vL l0), none, some (vI l2), some (vL l3), none, some (vI l5)], [], σ) else (21, [some (vL l0), none, some (vI l2), some (vL l3), none, some (vI l5)], [], σ))) rfl ?_
    refine run_ite hf (fun _ hf => ?_) (fun _ hf => ?_)
    · refine run_seg (k := 4) (s' := (15, [some (vL l0), none, some (vI l2), some (vL (w64 (l3 * l0))), none, some (vI l5)], [], σ)) rfl ?_
      refine run_let (fun x1 => (15, [some (vL l0), none, some (vI l2), some (vL x1), none, some (vI l5)], [], σ)) hf (fun x1 hf => ?_)
      refine run_seg (k := 1) (s' := (18, [some (vL l0), none, some (vI l2), some (vL x1), none, some (vI (w32 (l5 + 1)))], [], σ)) rfl ?_
      refine run_let (fun x2 => (18, [some (vL l0), none, some (vI l2), some (vL x1), none, some (vI x2)], [], σ)) hf (fun x2 hf => ?_)
      refine run_seg (k := 1) (s' := (5, [some (vL l0), none, some (vI l2), some (vL x1), none, some (vI x2)], [], σ)) rfl ?_
      exact ih hf
    · refine run_seg (k := 1) (s' := (22, [some (vL l0), none, some (vI l2), some (vL l3), none, some (vI l5)], [vL l3], σ)) rfl ?_
      exact run_ret hf rfl
theorem c_Fraction_power {p0 : Int} {p1 : Int} {σ : xSt} {r : Int} (hf : f_Fraction_power p0 p1 σ = some r) : Call (0 + 1) 31 [vL p0, vI p1] σ ((tL σ) r).1 ((tL σ) r).2 := by
  unfold f_Fraction_power at hf
  refine call_of (own := 2) (rk := 3) (cd := kX2_power) (ls := [some (vL p0), none, some (vI p1), none, none, none]) (rT := (tL σ)) rfl rfl rfl rfl rfl ?_
  refine run_seg (k := 4) (s' := (5, [some (vL p0), none, some (vI p1), some (vL 1), none, some (vI 0)], [], σ)) rfl ?_
  exact r_Fraction_power_5 1000000 hf
/-- BentPenny$Way.parentOf(I)I -/
def f_Way_parentOf (p1 : Int) (σ : xSt) : Option (Int) :=
  xbR (f_Way_hasNode 16 p1 σ) fun r1 =>
  if r1 = 0 then (some (-1))
  else (if 0 ≤ p1 ∧ p1 < 80 then (
  some (σ 19 p1.toNat)) else none)
theorem c_Way_parentOf {p1 : Int} {σ : xSt} {r : Int} (hf : f_Way_parentOf p1 σ = some r) : Call (1 + 1) 133 [vR 16, vI p1] σ ((tI σ) r).1 ((tI σ) r).2 := by
  unfold f_Way_parentOf at hf
  refine call_of (own := 10) (rk := 1) (cd := kX10_parentOf) (ls := [some (vR 16), some (vI p1)]) (rT := (tI σ)) rfl rfl rfl rfl rfl ?_
  refine run_seg (k := 2) (s' := (2, [some (vR 16), some (vI p1)], [vI p1, vR 16], σ)) rfl ?_
  refine run_callN (w := fun a => some (vI a)) (m := 130) (as := [vR 16, vI p1]) (pc := 5) (ls := [some (vR 16), some (vI p1)]) (st' := []) (σ := σ) hf rfl (fun _ h => (c_Way_hasNode_16 h).mono (by decide)) (fun r1 hf => ?_)
  refine run_seg (k := 1) (s' := (if r1 = 0 then (17, [some (vR 16), some (vI p1)], [], σ) else (8, [some (vR 16), some (vI p1)], [], σ))) rfl ?_
  refine run_ite hf (fun _ hf => ?_) (fun _ hf => ?_)
  · refine run_seg (k := 1) (s' := (18, [some (vR 16), some (vI p1)], [vI (-1)], σ)) rfl ?_
    exact run_ret hf rfl
  · refine run_seg (k := 3) (s' := (13, [some (vR 16), some (vI p1)], [vI p1, vR 19], σ)) rfl ?_
    refine run_guard (s' := (14, [some (vR 16), some (vI p1)], [vI (σ 19 p1.toNat)], σ)) hf rfl (fun hf => ?_)
    refine run_seg (k := 1) (s' := (18, [some (vR 16), some (vI p1)], [vI (σ 19 p1.toNat)], σ)) rfl ?_
    exact run_ret hf rfl
/-- BentPenny$Way.sideTo(I)I -/
def f_Way_sideTo (p1 : Int) (σ : xSt) : Option (Int) :=
  xbR (f_Way_hasNode 16 p1 σ) fun r1 =>
  if r1 = 0 then (some (-1))
  else (if 0 ≤ p1 ∧ p1 < 80 then (
  some (σ 20 p1.toNat)) else none)
theorem c_Way_sideTo {p1 : Int} {σ : xSt} {r : Int} (hf : f_Way_sideTo p1 σ = some r) : Call (1 + 1) 134 [vR 16, vI p1] σ ((tI σ) r).1 ((tI σ) r).2 := by
  unfold f_Way_sideTo at hf
  refine call_of (own := 10) (rk := 1) (cd := kX10_sideTo) (ls := [some (vR 16), some (vI p1)]) (rT := (tI σ)) rfl rfl rfl rfl rfl ?_
  refine run_seg (k := 2) (s' := (2, [some (vR 16), some (vI p1)], [vI p1, vR 16], σ)) rfl ?_
  refine run_callN (w := fun a => some (vI a)) (m := 130) (as := [vR 16, vI p1]) (pc := 5) (ls := [some (vR 16), some (vI p1)]) (st' := []) (σ := σ) hf rfl (fun _ h => (c_Way_hasNode_16 h).mono (by decide)) (fun r1 hf => ?_)
  refine run_seg (k := 1) (s' := (if r1 = 0 then (17, [some (vR 16), some (vI p1)], [], σ) else (8, [some (vR 16), some (vI p1)], [], σ))) rfl ?_
  refine run_ite hf (fun _ hf => ?_) (fun _ hf => ?_)
  · refine run_seg (k := 1) (s' := (18, [some (vR 16), some (vI p1)], [vI (-1)], σ)) rfl ?_
    exact run_ret hf rfl
  · refine run_seg (k := 3) (s' := (13, [some (vR 16), some (vI p1)], [vI p1, vR 20], σ)) rfl ?_
    refine run_guard (s' := (14, [some (vR 16), some (vI p1)], [vI (σ 20 p1.toNat)], σ)) hf rfl (fun hf => ?_)
    refine run_seg (k := 1) (s' := (18, [some (vR 16), some (vI p1)], [vI (σ 20 p1.toNat)], σ)) rfl ?_
    exact run_ret hf rfl
/-- BentPenny$Odds.partOf(LBentPenny$Table;II)I -/
def f_Odds_partOf (p2 : Int) (p3 : Int) (σ : xSt) : Option (Int) :=
  if p2 = σ 7 3 then (if p3 = 0 then (some (σ 87 10))
  else (some (σ 87 11)))
  else (xbR (f_Table_partsOf p2 p3 σ) fun r1 =>
  some r1)
theorem c_Odds_partOf {p2 : Int} {p3 : Int} {σ : xSt} {r : Int} (hf : f_Odds_partOf p2 p3 σ = some r) : Call (2 + 1) 45 [vR 87, vR 7, vI p2, vI p3] σ ((tI σ) r).1 ((tI σ) r).2 := by
  unfold f_Odds_partOf at hf
  refine call_of (own := 4) (rk := 1) (cd := kX4_partOf) (ls := [some (vR 87), some (vR 7), some (vI p2), some (vI p3)]) (rT := (tI σ)) rfl rfl rfl rfl rfl ?_
  refine run_seg (k := 4) (s' := (if p2 = σ 7 3 then (8, [some (vR 87), some (vR 7), some (vI p2), some (vI p3)], [], σ) else (24, [some (vR 87), some (vR 7), some (vI p2), some (vI p3)], [], σ))) rfl ?_
  refine run_ite hf (fun _ hf => ?_) (fun _ hf => ?_)
  · refine run_seg (k := 2) (s' := (if p3 = 0 then (12, [some (vR 87), some (vR 7), some (vI p2), some (vI p3)], [], σ) else (19, [some (vR 87), some (vR 7), some (vI p2), some (vI p3)], [], σ))) rfl ?_
    refine run_ite hf (fun _ hf => ?_) (fun _ hf => ?_)
    · refine run_seg (k := 3) (s' := (23, [some (vR 87), some (vR 7), some (vI p2), some (vI p3)], [vI (σ 87 10)], σ)) rfl ?_
      exact run_ret hf rfl
    · refine run_seg (k := 2) (s' := (23, [some (vR 87), some (vR 7), some (vI p2), some (vI p3)], [vI (σ 87 11)], σ)) rfl ?_
      exact run_ret hf rfl
  · refine run_seg (k := 3) (s' := (27, [some (vR 87), some (vR 7), some (vI p2), some (vI p3)], [vI p3, vI p2, vR 7], σ)) rfl ?_
    refine run_callN (w := fun a => some (vI a)) (m := 91) (as := [vR 7, vI p2, vI p3]) (pc := 30) (ls := [some (vR 87), some (vR 7), some (vI p2), some (vI p3)]) (st' := []) (σ := σ) hf rfl (fun _ h => (c_Table_partsOf h).mono (by decide)) (fun r1 hf => ?_)
    exact run_ret hf rfl
def f_Odds_weigh_175 (s0 : Int) (s1 : Int) (s2 : Int) (σ : xSt) : Option (xSt) :=
  if 0 ≤ s2 ∧ s2 < 80 then (
  xlet (upS σ 90 s2.toNat (w32 (s1 + s0))) fun σ13 =>
  some σ13) else none
def f_Odds_weigh_174 (s0 : Int) (s1 : Int) (σ : xSt) : Option (xSt) :=
  f_Odds_weigh_175 0 s0 s1 σ
def f_Odds_weigh_141 (l3 : Int) (l4 : Int) (l5 : Int) (l7 : Int) (s0 : Int) (s1 : Int) (s2 : Int) (σ : xSt) : Option (xSt) :=
  if 0 ≤ s2 ∧ s2 < 80 then (
  xlet (upS σ 89 s2.toNat (w32 (s1 + s0))) fun σ12 =>
  if 0 ≤ l4 ∧ l4 < 80 then (
  if l5 = σ12 7 3 then (if l7 = 1 then (f_Odds_weigh_175 1 (σ12 90 l4.toNat) l3 σ12)
  else (f_Odds_weigh_174 (σ12 90 l4.toNat) l3 σ12))
  else (f_Odds_weigh_174 (σ12 90 l4.toNat) l3 σ12)) else none) else none
def f_Odds_weigh_140 (l3 : Int) (l4 : Int) (l5 : Int) (l7 : Int) (s0 : Int) (s1 : Int) (σ : xSt) : Option (xSt) :=
  f_Odds_weigh_141 l3 l4 l5 l7 0 s0 s1 σ
/-- BentPenny$Odds.weigh(LBentPenny$Table;LBentPenny$Way;I)V -/
def f_Odds_weigh (p3 : Int) (σ : xSt) : Option (xSt) :=
  xbR (f_X_isWithin p3 80 σ) fun r1 =>
  if r1 = 0 then (some σ)
  else (if 0 ≤ p3 ∧ p3 < 80 then (
  xlet (upS σ 88 p3.toNat (σ 87 7)) fun σ2 =>
  if 0 ≤ p3 ∧ p3 < 80 then (
  xlet (upS σ2 89 p3.toNat 0) fun σ3 =>
  if 0 ≤ p3 ∧ p3 < 80 then (
  xlet (upS σ3 90 p3.toNat 0) fun σ4 =>
  xbR (f_Way_parentOf p3 σ4) fun r5 =>
  xbR (f_Way_whichAt r5 σ4) fun r6 =>
  xbR (f_Odds_wholeOf r6 σ4) fun r7 =>
  xbR (f_X_isWithin r5 80 σ4) fun r8 =>
  if r8 = 0 then (some σ4)
  else (if r7 < 1 then (some σ4)
  else (xbR (f_Way_sideTo p3 σ4) fun r9 =>
  if 0 ≤ r5 ∧ r5 < 80 then (
  if r7 = 0 then none else
  xbR (f_Odds_partOf r6 r9 σ4) fun r10 =>
  if 0 ≤ p3 ∧ p3 < 80 then (
  xlet (upS σ4 88 p3.toNat (w64 ((xldiv (σ4 88 r5.toNat) r7) * r10))) fun σ11 =>
  if 0 ≤ r5 ∧ r5 < 80 then (
  if r6 = σ11 7 3 then (if r9 = 0 then (f_Odds_weigh_141 p3 r5 r6 r9 1 (σ11 89 r5.toNat) p3 σ11)
  else (f_Odds_weigh_140 p3 r5 r6 r9 (σ11 89 r5.toNat) p3 σ11))
  else (f_Odds_weigh_140 p3 r5 r6 r9 (σ11 89 r5.toNat) p3 σ11)) else none) else none) else none))) else none) else none) else none)
theorem r_Odds_weigh_175 {s0 : Int} {s1 : Int} {s2 : Int} {g0 : Option xV} {g1 : Option xV} {g2 : Option xV} {g3 : Option xV} {g4 : Option xV} {g5 : Option xV} {g6 : Option xV} {g7 : Option xV} {σ : xSt} {r : xSt} (hf : f_Odds_weigh_175 s0 s1 s2 σ = some r) : Run 3 4 0 kX4_weigh (175, [g0, g1, g2, g3, g4, g5, g6, g7], [vI s0, vI s1, vI s2, vR 90], σ) (tV r) := by
  unfold f_Odds_weigh_175 at hf
  refine run_seg (k := 1) (s' := (176, [g0, g1, g2, g3, g4, g5, g6, g7], [vI (w32 (s1 + s0)), vI s2, vR 90], σ)) rfl ?_
  refine run_guard (s' := (177, [g0, g1, g2, g3, g4, g5, g6, g7], [], upS σ 90 s2.toNat (w32 (s1 + s0)))) hf rfl (fun hf => ?_)
  refine run_let (fun σ13 => (177, [g0, g1, g2, g3, g4, g5, g6, g7], [], σ13)) hf (fun σ13 hf => ?_)
  exact run_ret hf rfl
theorem r_Odds_weigh_174 {s0 : Int} {s1 : Int} {g0 : Option xV} {g1 : Option xV} {g2 : Option xV} {g3 : Option xV} {g4 : Option xV} {g5 : Option xV} {g6 : Option xV} {g7 : Option xV} {σ : xSt} {r : xSt} (hf : f_Odds_weigh_174 s0 s1 σ = some r) : Run 3 4 0 kX4_weigh (174, [g0, g1, g2, g3, g4, g5, g6, g7], [vI s0, vI s1, vR 90], σ) (tV r) := by
  unfold f_Odds_weigh_174 at hf
  refine run_seg (k := 1) (s' := (175, [g0, g1, g2, g3, g4, g5, g6, g7], [vI 0, vI s0, vI s1, vR 90], σ)) rfl ?_
  exact r_Odds_weigh_175 hf
theorem r_Odds_weigh_141 {l3 : Int} {l4 : Int} {l5 : Int} {l7 : Int} {s0 : Int} {s1 : Int} {s2 : Int} {g2 : Option xV} {g6 : Option xV} {σ : xSt} {r : xSt} (hf : f_Odds_weigh_141 l3 l4 l5 l7 s0 s1 s2 σ = some r) : Run 3 4 0 kX4_weigh (141, [some (vR 87), some (vR 7), g2, some (vI l3), some (vI l4), some (vI l5), g6, some (vI l7)], [vI s0, vI s1, vI s2, vR 89], σ) (tV r) := by
  unfold f_Odds_weigh_141 at hf
  refine run_seg (k := 1) (s' := (142, [some (vR 87), some (vR 7), g2, some (vI l3), some (vI l4), some (vI l5), g6, some (vI l7)], [vI (w32 (s1 + s0)), vI s2, vR 89], σ)) rfl ?_
  refine run_guard (s' := (143, [some (vR 87), some (vR 7), g2, some (vI l3), some (vI l4), some (vI l5), g6, some (vI l7)], [], upS σ 89 s2.toNat (w32 (s1 + s0)))) hf rfl (fun hf => ?_)
  refine run_let (fun σ12 => (143, [some (vR 87), some (vR 7), g2, some (vI l3), some (vI l4), some (vI l5), g6, some (vI l7)], [], σ12)) hf (fun σ12 hf => ?_)
  refine run_seg (k := 6) (s' := (154, [some (vR 87), some (vR 7), g2, some (vI l3), some (vI l4), some (vI l5), g6, some (vI l7)], [vI l4, vR 90, vI l3, vR 90], σ12)) rfl ?_
  refine run_guard (s' := (155, [some (vR 87), some (vR 7), g2, some (vI l3), some (vI l4), some (vI l5), g6, some (vI l7)], [vI (σ12 90 l4.toNat), vI l3, vR 90], σ12)) hf rfl (fun hf => ?_)
  refine run_seg (k := 4) (s' := (if l5 = σ12 7 3 then (164, [some (vR 87), some (vR 7), g2, some (vI l3), some (vI l4), some (vI l5), g6, some (vI l7)], [vI (σ12 90 l4.toNat), vI l3, vR 90], σ12) else (174, [some (vR 87), some (vR 7), g2, some (vI l3), some (vI l4), some (vI l5), g6, some (vI l7)], [vI (σ12 90 l4.toNat), vI l3, vR 90], σ12))) rfl ?_
  refine run_ite hf (fun _ hf => ?_) (fun _ hf => ?_)
  · refine run_seg (k := 3) (s' := (if l7 = 1 then (170, [some (vR 87), some (vR 7), g2, some (vI l3), some (vI l4), some (vI l5), g6, some (vI l7)], [vI (σ12 90 l4.toNat), vI l3, vR 90], σ12) else (174, [some (vR 87), some (vR 7), g2, some (vI l3), some (vI l4), some (vI l5), g6, some (vI l7)], [vI (σ12 90 l4.toNat), vI l3, vR 90], σ12))) rfl ?_
    refine run_ite hf (fun _ hf => ?_) (fun _ hf => ?_)
    · refine run_seg (k := 2) (s' := (175, [some (vR 87), some (vR 7), g2, some (vI l3), some (vI l4), some (vI l5), g6, some (vI l7)], [vI 1, vI (σ12 90 l4.toNat), vI l3, vR 90], σ12)) rfl ?_
      exact r_Odds_weigh_175 hf
    · exact r_Odds_weigh_174 hf
  · exact r_Odds_weigh_174 hf
theorem r_Odds_weigh_140 {l3 : Int} {l4 : Int} {l5 : Int} {l7 : Int} {s0 : Int} {s1 : Int} {g2 : Option xV} {g6 : Option xV} {σ : xSt} {r : xSt} (hf : f_Odds_weigh_140 l3 l4 l5 l7 s0 s1 σ = some r) : Run 3 4 0 kX4_weigh (140, [some (vR 87), some (vR 7), g2, some (vI l3), some (vI l4), some (vI l5), g6, some (vI l7)], [vI s0, vI s1, vR 89], σ) (tV r) := by
  unfold f_Odds_weigh_140 at hf
  refine run_seg (k := 1) (s' := (141, [some (vR 87), some (vR 7), g2, some (vI l3), some (vI l4), some (vI l5), g6, some (vI l7)], [vI 0, vI s0, vI s1, vR 89], σ)) rfl ?_
  exact r_Odds_weigh_141 hf
theorem c_Odds_weigh {p3 : Int} {σ : xSt} {r : xSt} (hf : f_Odds_weigh p3 σ = some r) : Call (3 + 1) 46 [vR 87, vR 7, vR 16, vI p3] σ (tV r).1 (tV r).2 := by
  unfold f_Odds_weigh at hf
  refine call_of (own := 4) (rk := 0) (cd := kX4_weigh) (ls := [some (vR 87), some (vR 7), some (vR 16), some (vI p3), none, none, none, none]) (rT := tV) rfl rfl rfl rfl rfl ?_
  refine run_seg (k := 2) (s' := (3, [some (vR 87), some (vR 7), some (vR 16), some (vI p3), none, none, none, none], [vI 80, vI p3], σ)) rfl ?_
  refine run_callN (w := fun a => some (vI a)) (m := 207) (as := [vI p3, vI 80]) (pc := 6) (ls := [some (vR 87), some (vR 7), some (vR 16), some (vI p3), none, none, none, none]) (st' := []) (σ := σ) hf rfl (fun _ h => (c_X_isWithin h).mono (by decide)) (fun r1 hf => ?_)
  refine run_seg (k := 1) (s' := (if r1 = 0 then (9, [some (vR 87), some (vR 7), some (vR 16), some (vI p3), none, none, none, none], [], σ) else (10, [some (vR 87), some (vR 7), some (vR 16), some (vI p3), none, none, none, none], [], σ))) rfl ?_
  refine run_ite hf (fun _ hf => ?_) (fun _ hf => ?_)
  · exact run_ret hf rfl
  · refine run_seg (k := 5) (s' := (19, [some (vR 87), some (vR 7), some (vR 16), some (vI p3), none, none, none, none], [vL (σ 87 7), vI p3, vR 88], σ)) rfl ?_
    refine run_guard (s' := (20, [some (vR 87), some (vR 7), some (vR 16), some (vI p3), none, none, none, none], [], upS σ 88 p3.toNat (σ 87 7))) hf rfl (fun hf => ?_)
    refine run_let (fun σ2 => (20, [some (vR 87), some (vR 7), some (vR 16), some (vI p3), none, none, none, none], [], σ2)) hf (fun σ2 hf => ?_)
    refine run_seg (k := 4) (s' := (26, [some (vR 87), some (vR 7), some (vR 16), some (vI p3), none, none, none, none], [vI 0, vI p3, vR 89], σ2)) rfl ?_
    refine run_guard (s' := (27, [some (vR 87), some (vR 7), some (vR 16), some (vI p3), none, none, none, none], [], upS σ2 89 p3.toNat 0)) hf rfl (fun hf => ?_)
    refine run_let (fun σ3 => (27, [some (vR 87), some (vR 7), some (vR 16), some (vI p3), none, none, none, none], [], σ3)) hf (fun σ3 hf => ?_)
    refine run_seg (k := 4) (s' := (33, [some (vR 87), some (vR 7), some (vR 16), some (vI p3), none, none, none, none], [vI 0, vI p3, vR 90], σ3)) rfl ?_
    refine run_guard (s' := (34, [some (vR 87), some (vR 7), some (vR 16), some (vI p3), none, none, none, none], [], upS σ3 90 p3.toNat 0)) hf rfl (fun hf => ?_)
    refine run_let (fun σ4 => (34, [some (vR 87), some (vR 7), some (vR 16), some (vI p3), none, none, none, none], [], σ4)) hf (fun σ4 hf => ?_)
    refine run_seg (k := 2) (s' := (36, [some (vR 87), some (vR 7), some (vR 16), some (vI p3), none, none, none, none], [vI p3, vR 16], σ4)) rfl ?_
    refine run_callN (w := fun a => some (vI a)) (m := 133) (as := [vR 16, vI p3]) (pc := 39) (ls := [some (vR 87), some (vR 7), some (vR 16), some (vI p3), none, none, none, none]) (st' := []) (σ := σ4) hf rfl (fun _ h => (c_Way_parentOf h).mono (by decide)) (fun r5 hf => ?_)
    refine run_seg (k := 3) (s' := (44, [some (vR 87), some (vR 7), some (vR 16), some (vI p3), some (vI r5), none, none, none], [vI r5, vR 16], σ4)) rfl ?_
    refine run_callN (w := fun a => some (vI a)) (m := 132) (as := [vR 16, vI r5]) (pc := 47) (ls := [some (vR 87), some (vR 7), some (vR 16), some (vI p3), some (vI r5), none, none, none]) (st' := []) (σ := σ4) hf rfl (fun _ h => (c_Way_whichAt h).mono (by decide)) (fun r6 hf => ?_)
    refine run_seg (k := 4) (s' := (53, [some (vR 87), some (vR 7), some (vR 16), some (vI p3), some (vI r5), some (vI r6), none, none], [vI r6, vR 7, vR 87], σ4)) rfl ?_
    refine run_callN (w := fun a => some (vI a)) (m := 44) (as := [vR 87, vR 7, vI r6]) (pc := 56) (ls := [some (vR 87), some (vR 7), some (vR 16), some (vI p3), some (vI r5), some (vI r6), none, none]) (st' := []) (σ := σ4) hf rfl (fun _ h => (c_Odds_wholeOf h).mono (by decide)) (fun r7 hf => ?_)
    refine run_seg (k := 3) (s' := (62, [some (vR 87), some (vR 7), some (vR 16), some (vI p3), some (vI r5), some (vI r6), some (vI r7), none], [vI 80, vI r5], σ4)) rfl ?_
    refine run_callN (w := fun a => some (vI a)) (m := 207) (as := [vI r5, vI 80]) (pc := 65) (ls := [some (vR 87), some (vR 7), some (vR 16), some (vI p3), some (vI r5), some (vI r6), some (vI r7), none]) (st' := []) (σ := σ4) hf rfl (fun _ h => (c_X_isWithin h).mono (by decide)) (fun r8 hf => ?_)
    refine run_seg (k := 1) (s' := (if r8 = 0 then (74, [some (vR 87), some (vR 7), some (vR 16), some (vI p3), some (vI r5), some (vI r6), some (vI r7), none], [], σ4) else (68, [some (vR 87), some (vR 7), some (vR 16), some (vI p3), some (vI r5), some (vI r6), some (vI r7), none], [], σ4))) rfl ?_
    refine run_ite hf (fun _ hf => ?_) (fun _ hf => ?_)
    · exact run_ret hf rfl
    · refine run_seg (k := 3) (s' := (if r7 < 1 then (74, [some (vR 87), some (vR 7), some (vR 16), some (vI p3), some (vI r5), some (vI r6), some (vI r7), none], [], σ4) else (75, [some (vR 87), some (vR 7), some (vR 16), some (vI p3), some (vI r5), some (vI r6), some (vI r7), none], [], σ4))) rfl ?_
      refine run_ite hf (fun _ hf => ?_) (fun _ hf => ?_)
      · exact run_ret hf rfl
      · refine run_seg (k := 2) (s' := (77, [some (vR 87), some (vR 7), some (vR 16), some (vI p3), some (vI r5), some (vI r6), some (vI r7), none], [vI p3, vR 16], σ4)) rfl ?_
        refine run_callN (w := fun a => some (vI a)) (m := 134) (as := [vR 16, vI p3]) (pc := 80) (ls := [some (vR 87), some (vR 7), some (vR 16), some (vI p3), some (vI r5), some (vI r6), some (vI r7), none]) (st' := []) (σ := σ4) hf rfl (fun _ h => (c_Way_sideTo h).mono (by decide)) (fun r9 hf => ?_)
        refine run_seg (k := 7) (s' := (93, [some (vR 87), some (vR 7), some (vR 16), some (vI p3), some (vI r5), some (vI r6), some (vI r7), some (vI r9)], [vI r5, vR 88, vI p3, vR 88], σ4)) rfl ?_
        refine run_guard (s' := (94, [some (vR 87), some (vR 7), some (vR 16), some (vI p3), some (vI r5), some (vI r6), some (vI r7), some (vI r9)], [vL (σ4 88 r5.toNat), vI p3, vR 88], σ4)) hf rfl (fun hf => ?_)
        refine run_seg (k := 2) (s' := (97, [some (vR 87), some (vR 7), some (vR 16), some (vI p3), some (vI r5), some (vI r6), some (vI r7), some (vI r9)], [vL r7, vL (σ4 88 r5.toNat), vI p3, vR 88], σ4)) rfl ?_
        refine run_gdiv (s' := (98, [some (vR 87), some (vR 7), some (vR 16), some (vI p3), some (vI r5), some (vI r6), some (vI r7), some (vI r9)], [vL (xldiv (σ4 88 r5.toNat) r7), vI p3, vR 88], σ4)) hf rfl (fun hf => ?_)
        refine run_seg (k := 4) (s' := (104, [some (vR 87), some (vR 7), some (vR 16), some (vI p3), some (vI r5), some (vI r6), some (vI r7), some (vI r9)], [vI r9, vI r6, vR 7, vR 87, vL (xldiv (σ4 88 r5.toNat) r7), vI p3, vR 88], σ4)) rfl ?_
        refine run_callN (w := fun a => some (vI a)) (m := 45) (as := [vR 87, vR 7, vI r6, vI r9]) (pc := 107) (ls := [some (vR 87), some (vR 7), some (vR 16), some (vI p3), some (vI r5), some (vI r6), some (vI r7), some (vI r9)]) (st' := [vL (xldiv (σ4 88 r5.toNat) r7), vI p3, vR 88]) (σ := σ4) hf rfl (fun _ h => (c_Odds_partOf h).mono (by decide)) (fun r10 hf => ?_)
        refine run_seg (k := 2) (s' := (109, [some (vR 87), some (vR 7), some (vR 16), some (vI p3), some (vI r5), some (vI r6), some (vI r7), some (vI r9)], [vL (w64 ((xldiv (σ4 88 r5.toNat) r7) * r10)), vI p3, vR 88], σ4)) rfl ?_
        refine run_guard (s' := (110, [some (vR 87), some (vR 7), some (vR 16), some (vI p3), some (vI r5), some (vI r6), some (vI r7), some (vI r9)], [], upS σ4 88 p3.toNat (w64 ((xldiv (σ4 88 r5.toNat) r7) * r10)))) hf rfl (fun hf => ?_)
        refine run_let (fun σ11 => (110, [some (vR 87), some (vR 7), some (vR 16), some (vI p3), some (vI r5), some (vI r6), some (vI r7), some (vI r9)], [], σ11)) hf (fun σ11 hf => ?_)
        refine run_seg (k := 6) (s' := (121, [some (vR 87), some (vR 7), some (vR 16), some (vI p3), some (vI r5), some (vI r6), some (vI r7), some (vI r9)], [vI r5, vR 89, vI p3, vR 89], σ11)) rfl ?_
        refine run_guard (s' := (122, [some (vR 87), some (vR 7), some (vR 16), some (vI p3), some (vI r5), some (vI r6), some (vI r7), some (vI r9)], [vI (σ11 89 r5.toNat), vI p3, vR 89], σ11)) hf rfl (fun hf => ?_)
        refine run_seg (k := 4) (s' := (if r6 = σ11 7 3 then (131, [some (vR 87), some (vR 7), some (vR 16), some (vI p3), some (vI r5), some (vI r6), some (vI r7), some (vI r9)], [vI (σ11 89 r5.toNat), vI p3, vR 89], σ11) else (140, [some (vR 87), some (vR 7), some (vR 16), some (vI p3), some (vI r5), some (vI r6), some (vI r7), some (vI r9)], [vI (σ11 89 r5.toNat), vI p3, vR 89], σ11))) rfl ?_
        refine run_ite hf (fun _ hf => ?_) (fun _ hf => ?_)
        · refine run_seg (k := 2) (s' := (if r9 = 0 then (136, [some (vR 87), some (vR 7), some (vR 16), some (vI p3), some (vI r5), some (vI r6), some (vI r7), some (vI r9)], [vI (σ11 89 r5.toNat), vI p3, vR 89], σ11) else (140, [some (vR 87), some (vR 7), some (vR 16), some (vI p3), some (vI r5), some (vI r6), some (vI r7), some (vI r9)], [vI (σ11 89 r5.toNat), vI p3, vR 89], σ11))) rfl ?_
          refine run_ite hf (fun _ hf => ?_) (fun _ hf => ?_)
          · refine run_seg (k := 2) (s' := (141, [some (vR 87), some (vR 7), some (vR 16), some (vI p3), some (vI r5), some (vI r6), some (vI r7), some (vI r9)], [vI 1, vI (σ11 89 r5.toNat), vI p3, vR 89], σ11)) rfl ?_
            exact r_Odds_weigh_141 hf
          · exact r_Odds_weigh_140 hf
        · exact r_Odds_weigh_140 hf
/-- BentPenny$Odds.tally(LBentPenny$Way;I)V -/
def f_Odds_tally (p2 : Int) (σ : xSt) : Option (xSt) :=
  xbR (f_X_isWithin p2 80 σ) fun r1 =>
  if r1 = 0 then (some σ)
  else (xbR (f_Way_sortAt p2 σ) fun r2 =>
  if r2 = 2 then (if 0 ≤ p2 ∧ p2 < 80 then (
  xlet (upS σ 87 9 (w64 ((σ 87 9) + (σ 88 p2.toNat)))) fun σ3 =>
  some σ3) else none)
  else (xbR (f_Way_sortAt p2 σ) fun r4 =>
  if r4 = 1 then (if 0 ≤ p2 ∧ p2 < 80 then (
  xlet (upS σ 87 8 (w64 ((σ 87 8) + (σ 88 p2.toNat)))) fun σ5 =>
  some σ5) else none)
  else (xbR (f_Way_whichAt p2 σ) fun r6 =>
  xbR (f_X_isWithin r6 6 σ) fun r7 =>
  if r7 = 0 then (some σ)
  else (xbR (f_Way_whichAt p2 σ) fun r8 =>
  if 0 ≤ r8 ∧ r8 < 6 then (
  if 0 ≤ p2 ∧ p2 < 80 then (
  if 0 ≤ r8 ∧ r8 < 6 then (
  xlet (upS σ 91 r8.toNat (w64 ((σ 91 r8.toNat) + (σ 88 p2.toNat)))) fun σ9 =>
  some σ9) else none) else none) else none))))
theorem c_Odds_tally {p2 : Int} {σ : xSt} {r : xSt} (hf : f_Odds_tally p2 σ = some r) : Call (2 + 1) 47 [vR 87, vR 16, vI p2] σ (tV r).1 (tV r).2 := by
  unfold f_Odds_tally at hf
  refine call_of (own := 4) (rk := 0) (cd := kX4_tally) (ls := [some (vR 87), some (vR 16), some (vI p2)]) (rT := tV) rfl rfl rfl rfl rfl ?_
  refine run_seg (k := 2) (s' := (3, [some (vR 87), some (vR 16), some (vI p2)], [vI 80, vI p2], σ)) rfl ?_
  refine run_callN (w := fun a => some (vI a)) (m := 207) (as := [vI p2, vI 80]) (pc := 6) (ls := [some (vR 87), some (vR 16), some (vI p2)]) (st' := []) (σ := σ) hf rfl (fun _ h => (c_X_isWithin h).mono (by decide)) (fun r1 hf => ?_)
  refine run_seg (k := 1) (s' := (if r1 = 0 then (9, [some (vR 87), some (vR 16), some (vI p2)], [], σ) else (10, [some (vR 87), some (vR 16), some (vI p2)], [], σ))) rfl ?_
  refine run_ite hf (fun _ hf => ?_) (fun _ hf => ?_)
  · exact run_ret hf rfl
  · refine run_seg (k := 2) (s' := (12, [some (vR 87), some (vR 16), some (vI p2)], [vI p2, vR 16], σ)) rfl ?_
    refine run_callN (w := fun a => some (vI a)) (m := 131) (as := [vR 16, vI p2]) (pc := 15) (ls := [some (vR 87), some (vR 16), some (vI p2)]) (st' := []) (σ := σ) hf rfl (fun _ h => (c_Way_sortAt h).mono (by decide)) (fun r2 hf => ?_)
    refine run_seg (k := 2) (s' := (if r2 = 2 then (19, [some (vR 87), some (vR 16), some (vI p2)], [], σ) else (37, [some (vR 87), some (vR 16), some (vI p2)], [], σ))) rfl ?_
    refine run_ite hf (fun _ hf => ?_) (fun _ hf => ?_)
    · refine run_seg (k := 6) (s' := (29, [some (vR 87), some (vR 16), some (vI p2)], [vI p2, vR 88, vL (σ 87 9), vR 87], σ)) rfl ?_
      refine run_guard (s' := (30, [some (vR 87), some (vR 16), some (vI p2)], [vL (σ 88 p2.toNat), vL (σ 87 9), vR 87], σ)) hf rfl (fun hf => ?_)
      refine run_seg (k := 2) (s' := (34, [some (vR 87), some (vR 16), some (vI p2)], [], upS σ 87 9 (w64 ((σ 87 9) + (σ 88 p2.toNat))))) rfl ?_
      refine run_let (fun σ3 => (34, [some (vR 87), some (vR 16), some (vI p2)], [], σ3)) hf (fun σ3 hf => ?_)
      refine run_seg (k := 1) (s' := (96, [some (vR 87), some (vR 16), some (vI p2)], [], σ3)) rfl ?_
      exact run_ret hf rfl
    · refine run_seg (k := 2) (s' := (39, [some (vR 87), some (vR 16), some (vI p2)], [vI p2, vR 16], σ)) rfl ?_
      refine run_callN (w := fun a => some (vI a)) (m := 131) (as := [vR 16, vI p2]) (pc := 42) (ls := [some (vR 87), some (vR 16), some (vI p2)]) (st' := []) (σ := σ) hf rfl (fun _ h => (c_Way_sortAt h).mono (by decide)) (fun r4 hf => ?_)
      refine run_seg (k := 2) (s' := (if r4 = 1 then (46, [some (vR 87), some (vR 16), some (vI p2)], [], σ) else (64, [some (vR 87), some (vR 16), some (vI p2)], [], σ))) rfl ?_
      refine run_ite hf (fun _ hf => ?_) (fun _ hf => ?_)
      · refine run_seg (k := 6) (s' := (56, [some (vR 87), some (vR 16), some (vI p2)], [vI p2, vR 88, vL (σ 87 8), vR 87], σ)) rfl ?_
        refine run_guard (s' := (57, [some (vR 87), some (vR 16), some (vI p2)], [vL (σ 88 p2.toNat), vL (σ 87 8), vR 87], σ)) hf rfl (fun hf => ?_)
        refine run_seg (k := 2) (s' := (61, [some (vR 87), some (vR 16), some (vI p2)], [], upS σ 87 8 (w64 ((σ 87 8) + (σ 88 p2.toNat))))) rfl ?_
        refine run_let (fun σ5 => (61, [some (vR 87), some (vR 16), some (vI p2)], [], σ5)) hf (fun σ5 hf => ?_)
        refine run_seg (k := 1) (s' := (96, [some (vR 87), some (vR 16), some (vI p2)], [], σ5)) rfl ?_
        exact run_ret hf rfl
      · refine run_seg (k := 2) (s' := (66, [some (vR 87), some (vR 16), some (vI p2)], [vI p2, vR 16], σ)) rfl ?_
        refine run_callN (w := fun a => some (vI a)) (m := 132) (as := [vR 16, vI p2]) (pc := 69) (ls := [some (vR 87), some (vR 16), some (vI p2)]) (st' := []) (σ := σ) hf rfl (fun _ h => (c_Way_whichAt h).mono (by decide)) (fun r6 hf => ?_)
        refine run_seg (k := 1) (s' := (71, [some (vR 87), some (vR 16), some (vI p2)], [vI 6, vI r6], σ)) rfl ?_
        refine run_callN (w := fun a => some (vI a)) (m := 207) (as := [vI r6, vI 6]) (pc := 74) (ls := [some (vR 87), some (vR 16), some (vI p2)]) (st' := []) (σ := σ) hf rfl (fun _ h => (c_X_isWithin h).mono (by decide)) (fun r7 hf => ?_)
        refine run_seg (k := 1) (s' := (if r7 = 0 then (96, [some (vR 87), some (vR 16), some (vI p2)], [], σ) else (77, [some (vR 87), some (vR 16), some (vI p2)], [], σ))) rfl ?_
        refine run_ite hf (fun _ hf => ?_) (fun _ hf => ?_)
        · exact run_ret hf rfl
        · refine run_seg (k := 4) (s' := (83, [some (vR 87), some (vR 16), some (vI p2)], [vI p2, vR 16, vR 91], σ)) rfl ?_
          refine run_callN (w := fun a => some (vI a)) (m := 132) (as := [vR 16, vI p2]) (pc := 86) (ls := [some (vR 87), some (vR 16), some (vI p2)]) (st' := [vR 91]) (σ := σ) hf rfl (fun _ h => (c_Way_whichAt h).mono (by decide)) (fun r8 hf => ?_)
          refine run_seg (k := 1) (s' := (87, [some (vR 87), some (vR 16), some (vI p2)], [vI r8, vR 91, vI r8, vR 91], σ)) rfl ?_
          refine run_guard (s' := (88, [some (vR 87), some (vR 16), some (vI p2)], [vL (σ 91 r8.toNat), vI r8, vR 91], σ)) hf rfl (fun hf => ?_)
          refine run_seg (k := 3) (s' := (93, [some (vR 87), some (vR 16), some (vI p2)], [vI p2, vR 88, vL (σ 91 r8.toNat), vI r8, vR 91], σ)) rfl ?_
          refine run_guard (s' := (94, [some (vR 87), some (vR 16), some (vI p2)], [vL (σ 88 p2.toNat), vL (σ 91 r8.toNat), vI r8, vR 91], σ)) hf rfl (fun hf => ?_)
          refine run_seg (k := 1) (s' := (95, [some (vR 87), some (vR 16), some (vI p2)], [vL (w64 ((σ 91 r8.toNat) + (σ 88 p2.toNat))), vI r8, vR 91], σ)) rfl ?_
          refine run_guard (s' := (96, [some (vR 87), some (vR 16), some (vI p2)], [], upS σ 91 r8.toNat (w64 ((σ 91 r8.toNat) + (σ 88 p2.toNat))))) hf rfl (fun hf => ?_)
          refine run_let (fun σ9 => (96, [some (vR 87), some (vR 16), some (vI p2)], [], σ9)) hf (fun σ9 hf => ?_)
          exact run_ret hf rfl
def f_Odds_spread_99 : Nat → Int → xSt → Option (xSt)
  | 0, _, _ => none
  | n + 1, l6, σ =>
    if l6 < σ 16 0 then (if l6 < 80 then (xbR (f_Odds_weigh l6 σ) fun σ13 =>
    xbR (f_Odds_tally l6 σ13) fun σ14 =>
    xlet (w32 (l6 + 1)) fun x15 =>
    f_Odds_spread_99 n x15 σ14)
    else (some σ))
    else (some σ)
def f_Odds_spread_75 : Nat → Int → xSt → Option (xSt)
  | 0, _, _ => none
  | n + 1, l6, σ =>
    if l6 < 6 then (if 0 ≤ l6 ∧ l6 < 6 then (
    xlet (upS σ 91 l6.toNat 0) fun σ11 =>
    xlet (w32 (l6 + 1)) fun x12 =>
    f_Odds_spread_75 n x12 σ11) else none)
    else (f_Odds_spread_99 1000000 0 σ)
def f_Odds_spread_25 : Nat → Int → xSt → Option (xSt)
  | 0, _, _ => none
  | n + 1, l6, σ =>
    if l6 < σ 7 1 then (xbR (f_Odds_wholeOf l6 σ) fun r5 =>
    xbR (f_Fraction_power r5 6 σ) fun r6 =>
    xlet (upS σ 87 7 (w64 ((σ 87 7) * r6))) fun σ7 =>
    xlet (w32 (l6 + 1)) fun x8 =>
    f_Odds_spread_25 n x8 σ7)
    else (xlet (upS σ 87 8 0) fun σ9 =>
    xlet (upS σ9 87 9 0) fun σ10 =>
    f_Odds_spread_75 1000000 0 σ10)
/-- BentPenny$Odds.spread(LBentPenny$Table;LBentPenny$Way;III)V -/
def f_Odds_spread (p3 : Int) (p4 : Int) (p5 : Int) (σ : xSt) : Option (xSt) :=
  xlet (upS σ 87 10 p3) fun σ1 =>
  xlet (upS σ1 87 11 p4) fun σ2 =>
  xlet (upS σ2 87 12 p5) fun σ3 =>
  xlet (upS σ3 87 7 1) fun σ4 =>
  f_Odds_spread_25 1000000 0 σ4
theorem r_Odds_spread_99 : ∀ (n : Nat) {l6 : Int} {g3 : Option xV} {g4 : Option xV} {g5 : Option xV} {σ : xSt} {r : xSt}, f_Odds_spread_99 n l6 σ = some r → Run 4 4 0 kX4_spread (99, [some (vR 87), some (vR 7), some (vR 16), g3, g4, g5, some (vI l6)], [], σ) (tV r) := by
  intro n
  induction n with
  | zero =>
    intro _ _ _ _ _ _ h
    exact nomatch (show (none : Option (xSt)) = some _ from h)
  | succ n ih =>
    intro l6 g3 g4 g5 σ r hf
    unfold f_Odds_spread_99 at hf
    refine run_seg (k := 4) (s' := (if l6 < σ 16 0 then (108, [some (vR 87), some (vR 7), some (vR 16), g3, g4, g5, some (vI l6)], [], σ) else (136, [some (vR 87), some (vR 7), some (vR 16), g3, g4, g5, some (vI l6)], [], σ))) rfl ?_
    refine run_ite hf (fun _ hf => ?_) (fun _ hf => ?_)
    · refine run_seg (k := 3) (s' := (if l6 < 80 then (115, [some (vR 87), some (vR 7), some (vR 16), g3, g4, g5, some (vI l6)], [], σ) else (136, [some (vR 87), some (vR 7), some (vR 16), g3, g4, g5, some (vI l6)], [], σ))) rfl ?_
      refine run_ite hf (fun _ hf => ?_) (fun _ hf => ?_)
      · refine run_seg (k := 4) (s' := (120, [some (vR 87), some (vR 7), some (vR 16), g3, g4, g5, some (vI l6)], [vI l6, vR 16, vR 7, vR 87], σ)) rfl ?_
        refine run_callV (m := 46) (as := [vR 87, vR 7, vR 16, vI l6]) (pc := 123) (ls := [some (vR 87), some (vR 7), some (vR 16), g3, g4, g5, some (vI l6)]) (st' := []) (σ := σ) hf rfl (fun _ h => (c_Odds_weigh h).mono (by decide)) (fun σ13 hf => ?_)
        refine run_seg (k := 3) (s' := (127, [some (vR 87), some (vR 7), some (vR 16), g3, g4, g5, some (vI l6)], [vI l6, vR 16, vR 87], σ13)) rfl ?_
        refine run_callV (m := 47) (as := [vR 87, vR 16, vI l6]) (pc := 130) (ls := [some (vR 87), some (vR 7), some (vR 16), g3, g4, g5, some (vI l6)]) (st' := []) (σ := σ13) hf rfl (fun _ h => (c_Odds_tally h).mono (by decide)) (fun σ14 hf => ?_)
        refine run_seg (k := 1) (s' := (133, [some (vR 87), some (vR 7), some (vR 16), g3, g4, g5, some (vI (w32 (l6 + 1)))], [], σ14)) rfl ?_
        refine run_let (fun x15 => (133, [some (vR 87), some (vR 7), some (vR 16), g3, g4, g5, some (vI x15)], [], σ14)) hf (fun x15 hf => ?_)
        refine run_seg (k := 1) (s' := (99, [some (vR 87), some (vR 7), some (vR 16), g3, g4, g5, some (vI x15)], [], σ14)) rfl ?_
        exact ih hf
      · exact run_ret hf rfl
    · exact run_ret hf rfl
theorem r_Odds_spread_75 : ∀ (n : Nat) {l6 : Int} {g3 : Option xV} {g4 : Option xV} {g5 : Option xV} {σ : xSt} {r : xSt}, f_Odds_spread_75 n l6 σ = some r → Run 4 4 0 kX4_spread (75, [some (vR 87), some (vR 7), some (vR 16), g3, g4, g5, some (vI l6)], [], σ) (tV r) := by
  intro n
  induction n with
  | zero =>
    intro _ _ _ _ _ _ h
    exact nomatch (show (none : Option (xSt)) = some _ from h)
  | succ n ih =>
    intro l6 g3 g4 g5 σ r hf
    unfold f_Odds_spread_75 at hf
    refine run_seg (k := 3) (s' := (if l6 < 6 then (82, [some (vR 87), some (vR 7), some (vR 16), g3, g4, g5, some (vI l6)], [], σ) else (96, [some (vR 87), some (vR 7), some (vR 16), g3, g4, g5, some (vI l6)], [], σ))) rfl ?_
    refine run_ite hf (fun _ hf => ?_) (fun _ hf => ?_)
    · refine run_seg (k := 4) (s' := (89, [some (vR 87), some (vR 7), some (vR 16), g3, g4, g5, some (vI l6)], [vL 0, vI l6, vR 91], σ)) rfl ?_
      refine run_guard (s' := (90, [some (vR 87), some (vR 7), some (vR 16), g3, g4, g5, some (vI l6)], [], upS σ 91 l6.toNat 0)) hf rfl (fun hf => ?_)
      refine run_let (fun σ11 => (90, [some (vR 87), some (vR 7), some (vR 16), g3, g4, g5, some (vI l6)], [], σ11)) hf (fun σ11 hf => ?_)
      refine run_seg (k := 1) (s' := (93, [some (vR 87), some (vR 7), some (vR 16), g3, g4, g5, some (vI (w32 (l6 + 1)))], [], σ11)) rfl ?_
      refine run_let (fun x12 => (93, [some (vR 87), some (vR 7), some (vR 16), g3, g4, g5, some (vI x12)], [], σ11)) hf (fun x12 hf => ?_)
      refine run_seg (k := 1) (s' := (75, [some (vR 87), some (vR 7), some (vR 16), g3, g4, g5, some (vI x12)], [], σ11)) rfl ?_
      exact ih hf
    · refine run_seg (k := 2) (s' := (99, [some (vR 87), some (vR 7), some (vR 16), g3, g4, g5, some (vI 0)], [], σ)) rfl ?_
      exact r_Odds_spread_99 1000000 hf
theorem r_Odds_spread_25 : ∀ (n : Nat) {l6 : Int} {g3 : Option xV} {g4 : Option xV} {g5 : Option xV} {σ : xSt} {r : xSt}, f_Odds_spread_25 n l6 σ = some r → Run 4 4 0 kX4_spread (25, [some (vR 87), some (vR 7), some (vR 16), g3, g4, g5, some (vI l6)], [], σ) (tV r) := by
  intro n
  induction n with
  | zero =>
    intro _ _ _ _ _ _ h
    exact nomatch (show (none : Option (xSt)) = some _ from h)
  | succ n ih =>
    intro l6 g3 g4 g5 σ r hf
    unfold f_Odds_spread_25 at hf
    refine run_seg (k := 4) (s' := (if l6 < σ 7 1 then (34, [some (vR 87), some (vR 7), some (vR 16), g3, g4, g5, some (vI l6)], [], σ) else (62, [some (vR 87), some (vR 7), some (vR 16), g3, g4, g5, some (vI l6)], [], σ))) rfl ?_
    refine run_ite hf (fun _ hf => ?_) (fun _ hf => ?_)
    · refine run_seg (k := 6) (s' := (43, [some (vR 87), some (vR 7), some (vR 16), g3, g4, g5, some (vI l6)], [vI l6, vR 7, vR 87, vL (σ 87 7), vR 87], σ)) rfl ?_
      refine run_callN (w := fun a => some (vI a)) (m := 44) (as := [vR 87, vR 7, vI l6]) (pc := 46) (ls := [some (vR 87), some (vR 7), some (vR 16), g3, g4, g5, some (vI l6)]) (st' := [vL (σ 87 7), vR 87]) (σ := σ) hf rfl (fun _ h => (c_Odds_wholeOf h).mono (by decide)) (fun r5 hf => ?_)
      refine run_seg (k := 2) (s' := (49, [some (vR 87), some (vR 7), some (vR 16), g3, g4, g5, some (vI l6)], [vI 6, vL r5, vL (σ 87 7), vR 87], σ)) rfl ?_
      refine run_callN (w := fun a => some (vL a)) (m := 31) (as := [vL r5, vI 6]) (pc := 52) (ls := [some (vR 87), some (vR 7), some (vR 16), g3, g4, g5, some (vI l6)]) (st' := [vL (σ 87 7), vR 87]) (σ := σ) hf rfl (fun _ h => (c_Fraction_power h).mono (by decide)) (fun r6 hf => ?_)
      refine run_seg (k := 2) (s' := (56, [some (vR 87), some (vR 7), some (vR 16), g3, g4, g5, some (vI l6)], [], upS σ 87 7 (w64 ((σ 87 7) * r6)))) rfl ?_
      refine run_let (fun σ7 => (56, [some (vR 87), some (vR 7), some (vR 16), g3, g4, g5, some (vI l6)], [], σ7)) hf (fun σ7 hf => ?_)
      refine run_seg (k := 1) (s' := (59, [some (vR 87), some (vR 7), some (vR 16), g3, g4, g5, some (vI (w32 (l6 + 1)))], [], σ7)) rfl ?_
      refine run_let (fun x8 => (59, [some (vR 87), some (vR 7), some (vR 16), g3, g4, g5, some (vI x8)], [], σ7)) hf (fun x8 hf => ?_)
      refine run_seg (k := 1) (s' := (25, [some (vR 87), some (vR 7), some (vR 16), g3, g4, g5, some (vI x8)], [], σ7)) rfl ?_
      exact ih hf
    · refine run_seg (k := 3) (s' := (67, [some (vR 87), some (vR 7), some (vR 16), g3, g4, g5, some (vI l6)], [], upS σ 87 8 0)) rfl ?_
      refine run_let (fun σ9 => (67, [some (vR 87), some (vR 7), some (vR 16), g3, g4, g5, some (vI l6)], [], σ9)) hf (fun σ9 hf => ?_)
      refine run_seg (k := 3) (s' := (72, [some (vR 87), some (vR 7), some (vR 16), g3, g4, g5, some (vI l6)], [], upS σ9 87 9 0)) rfl ?_
      refine run_let (fun σ10 => (72, [some (vR 87), some (vR 7), some (vR 16), g3, g4, g5, some (vI l6)], [], σ10)) hf (fun σ10 hf => ?_)
      refine run_seg (k := 2) (s' := (75, [some (vR 87), some (vR 7), some (vR 16), g3, g4, g5, some (vI 0)], [], σ10)) rfl ?_
      exact r_Odds_spread_75 1000000 hf
theorem c_Odds_spread {p3 : Int} {p4 : Int} {p5 : Int} {σ : xSt} {r : xSt} (hf : f_Odds_spread p3 p4 p5 σ = some r) : Call (4 + 1) 43 [vR 87, vR 7, vR 16, vI p3, vI p4, vI p5] σ (tV r).1 (tV r).2 := by
  unfold f_Odds_spread at hf
  refine call_of (own := 4) (rk := 0) (cd := kX4_spread) (ls := [some (vR 87), some (vR 7), some (vR 16), some (vI p3), some (vI p4), some (vI p5), none]) (rT := tV) rfl rfl rfl rfl rfl ?_
  refine run_seg (k := 3) (s' := (5, [some (vR 87), some (vR 7), some (vR 16), some (vI p3), some (vI p4), some (vI p5), none], [], upS σ 87 10 p3)) rfl ?_
  refine run_let (fun σ1 => (5, [some (vR 87), some (vR 7), some (vR 16), some (vI p3), some (vI p4), some (vI p5), none], [], σ1)) hf (fun σ1 hf => ?_)
  refine run_seg (k := 3) (s' := (11, [some (vR 87), some (vR 7), some (vR 16), some (vI p3), some (vI p4), some (vI p5), none], [], upS σ1 87 11 p4)) rfl ?_
  refine run_let (fun σ2 => (11, [some (vR 87), some (vR 7), some (vR 16), some (vI p3), some (vI p4), some (vI p5), none], [], σ2)) hf (fun σ2 hf => ?_)
  refine run_seg (k := 3) (s' := (17, [some (vR 87), some (vR 7), some (vR 16), some (vI p3), some (vI p4), some (vI p5), none], [], upS σ2 87 12 p5)) rfl ?_
  refine run_let (fun σ3 => (17, [some (vR 87), some (vR 7), some (vR 16), some (vI p3), some (vI p4), some (vI p5), none], [], σ3)) hf (fun σ3 hf => ?_)
  refine run_seg (k := 3) (s' := (22, [some (vR 87), some (vR 7), some (vR 16), some (vI p3), some (vI p4), some (vI p5), none], [], upS σ3 87 7 1)) rfl ?_
  refine run_let (fun σ4 => (22, [some (vR 87), some (vR 7), some (vR 16), some (vI p3), some (vI p4), some (vI p5), none], [], σ4)) hf (fun σ4 hf => ?_)
  refine run_seg (k := 2) (s' := (25, [some (vR 87), some (vR 7), some (vR 16), some (vI p3), some (vI p4), some (vI p5), some (vI 0)], [], σ4)) rfl ?_
  exact r_Odds_spread_25 1000000 hf
/-- BentPenny.spreadBy(III)Z -/
def f_X_spreadBy (p1 : Int) (p2 : Int) (p3 : Int) (σ : xSt) : Option (Int × xSt) :=
  if p2 < 1 then (some (0, σ))
  else (if 9 < p2 then (some (0, σ))
  else (if p1 < 0 then (some (0, σ))
  else (if p2 < p1 then (some (0, σ))
  else (xbR (f_X_isWithin p3 2 σ) fun r1 =>
  if r1 = 0 then (some (0, σ))
  else (xbR (f_Way_isTold σ) fun r2 =>
  if r2 = 0 then (some (0, σ))
  else (xbR (f_Odds_spread p1 (w32 (p2 - p1)) p2 σ) fun σ3 =>
  if 0 < xlc (σ3 87 7) (σ3 87 8) then (some (1, σ3))
  else (some (0, σ3))))))))
theorem c_X_spreadBy {p1 : Int} {p2 : Int} {p3 : Int} {σ : xSt} {r : Int × xSt} (hf : f_X_spreadBy p1 p2 p3 σ = some r) : Call (5 + 1) 168 [vR 0, vI p1, vI p2, vI p3] σ (tIW r).1 (tIW r).2 := by
  unfold f_X_spreadBy at hf
  refine call_of (own := 11) (rk := 2) (cd := kX11_spreadBy) (ls := [some (vR 0), some (vI p1), some (vI p2), some (vI p3)]) (rT := tIW) rfl rfl rfl rfl rfl ?_
  refine run_seg (k := 3) (s' := (if p2 < 1 then (41, [some (vR 0), some (vI p1), some (vI p2), some (vI p3)], [], σ) else (5, [some (vR 0), some (vI p1), some (vI p2), some (vI p3)], [], σ))) rfl ?_
  refine run_ite hf (fun _ hf => ?_) (fun _ hf => ?_)
  · refine run_seg (k := 1) (s' := (42, [some (vR 0), some (vI p1), some (vI p2), some (vI p3)], [vI 0], σ)) rfl ?_
    exact run_ret hf rfl
  · refine run_seg (k := 3) (s' := (if 9 < p2 then (41, [some (vR 0), some (vI p1), some (vI p2), some (vI p3)], [], σ) else (11, [some (vR 0), some (vI p1), some (vI p2), some (vI p3)], [], σ))) rfl ?_
    refine run_ite hf (fun _ hf => ?_) (fun _ hf => ?_)
    · refine run_seg (k := 1) (s' := (42, [some (vR 0), some (vI p1), some (vI p2), some (vI p3)], [vI 0], σ)) rfl ?_
      exact run_ret hf rfl
    · refine run_seg (k := 2) (s' := (if p1 < 0 then (41, [some (vR 0), some (vI p1), some (vI p2), some (vI p3)], [], σ) else (15, [some (vR 0), some (vI p1), some (vI p2), some (vI p3)], [], σ))) rfl ?_
      refine run_ite hf (fun _ hf => ?_) (fun _ hf => ?_)
      · refine run_seg (k := 1) (s' := (42, [some (vR 0), some (vI p1), some (vI p2), some (vI p3)], [vI 0], σ)) rfl ?_
        exact run_ret hf rfl
      · refine run_seg (k := 3) (s' := (if p2 < p1 then (41, [some (vR 0), some (vI p1), some (vI p2), some (vI p3)], [], σ) else (20, [some (vR 0), some (vI p1), some (vI p2), some (vI p3)], [], σ))) rfl ?_
        refine run_ite hf (fun _ hf => ?_) (fun _ hf => ?_)
        · refine run_seg (k := 1) (s' := (42, [some (vR 0), some (vI p1), some (vI p2), some (vI p3)], [vI 0], σ)) rfl ?_
          exact run_ret hf rfl
        · refine run_seg (k := 2) (s' := (22, [some (vR 0), some (vI p1), some (vI p2), some (vI p3)], [vI 2, vI p3], σ)) rfl ?_
          refine run_callN (w := fun a => some (vI a)) (m := 207) (as := [vI p3, vI 2]) (pc := 25) (ls := [some (vR 0), some (vI p1), some (vI p2), some (vI p3)]) (st' := []) (σ := σ) hf rfl (fun _ h => (c_X_isWithin h).mono (by decide)) (fun r1 hf => ?_)
          refine run_seg (k := 1) (s' := (if r1 = 0 then (41, [some (vR 0), some (vI p1), some (vI p2), some (vI p3)], [], σ) else (28, [some (vR 0), some (vI p1), some (vI p2), some (vI p3)], [], σ))) rfl ?_
          refine run_ite hf (fun _ hf => ?_) (fun _ hf => ?_)
          · refine run_seg (k := 1) (s' := (42, [some (vR 0), some (vI p1), some (vI p2), some (vI p3)], [vI 0], σ)) rfl ?_
            exact run_ret hf rfl
          · refine run_seg (k := 3) (s' := (35, [some (vR 0), some (vI p1), some (vI p2), some (vI p3)], [vR 16], σ)) rfl ?_
            refine run_callN (w := fun a => some (vI a)) (m := 129) (as := [vR 16]) (pc := 38) (ls := [some (vR 0), some (vI p1), some (vI p2), some (vI p3)]) (st' := []) (σ := σ) hf rfl (fun _ h => (c_Way_isTold h).mono (by decide)) (fun r2 hf => ?_)
            refine run_seg (k := 1) (s' := (if r2 = 0 then (41, [some (vR 0), some (vI p1), some (vI p2), some (vI p3)], [], σ) else (43, [some (vR 0), some (vI p1), some (vI p2), some (vI p3)], [], σ))) rfl ?_
            refine run_ite hf (fun _ hf => ?_) (fun _ hf => ?_)
            · refine run_seg (k := 1) (s' := (42, [some (vR 0), some (vI p1), some (vI p2), some (vI p3)], [vI 0], σ)) rfl ?_
              exact run_ret hf rfl
            · refine run_seg (k := 13) (s' := (66, [some (vR 0), some (vI p1), some (vI p2), some (vI p3)], [vI p2, vI (w32 (p2 - p1)), vI p1, vR 16, vR 7, vR 87], σ)) rfl ?_
              refine run_callV (m := 43) (as := [vR 87, vR 7, vR 16, vI p1, vI (w32 (p2 - p1)), vI p2]) (pc := 69) (ls := [some (vR 0), some (vI p1), some (vI p2), some (vI p3)]) (st' := []) (σ := σ) hf rfl (fun _ h => (c_Odds_spread h).mono (by decide)) (fun σ3 hf => ?_)
              refine run_seg (k := 8) (s' := (if 0 < xlc (σ3 87 7) (σ3 87 8) then (87, [some (vR 0), some (vI p1), some (vI p2), some (vI p3)], [], σ3) else (91, [some (vR 0), some (vI p1), some (vI p2), some (vI p3)], [], σ3))) rfl ?_
              refine run_ite hf (fun _ hf => ?_) (fun _ hf => ?_)
              · refine run_seg (k := 2) (s' := (92, [some (vR 0), some (vI p1), some (vI p2), some (vI p3)], [vI 1], σ3)) rfl ?_
                exact run_ret hf rfl
              · refine run_seg (k := 1) (s' := (92, [some (vR 0), some (vI p1), some (vI p2), some (vI p3)], [vI 0], σ3)) rfl ?_
                exact run_ret hf rfl
/-- BentPenny$Odds.endWeight(I)J -/
def f_Odds_endWeight (p1 : Int) (σ : xSt) : Option (Int) :=
  xbR (f_X_isWithin p1 6 σ) fun r1 =>
  if r1 = 0 then (some 0)
  else (if 0 ≤ p1 ∧ p1 < 6 then (
  some (σ 91 p1.toNat)) else none)
theorem c_Odds_endWeight {p1 : Int} {σ : xSt} {r : Int} (hf : f_Odds_endWeight p1 σ = some r) : Call (1 + 1) 48 [vR 87, vI p1] σ ((tL σ) r).1 ((tL σ) r).2 := by
  unfold f_Odds_endWeight at hf
  refine call_of (own := 4) (rk := 3) (cd := kX4_endWeight) (ls := [some (vR 87), some (vI p1)]) (rT := (tL σ)) rfl rfl rfl rfl rfl ?_
  refine run_seg (k := 2) (s' := (3, [some (vR 87), some (vI p1)], [vI 6, vI p1], σ)) rfl ?_
  refine run_callN (w := fun a => some (vI a)) (m := 207) (as := [vI p1, vI 6]) (pc := 6) (ls := [some (vR 87), some (vI p1)]) (st' := []) (σ := σ) hf rfl (fun _ h => (c_X_isWithin h).mono (by decide)) (fun r1 hf => ?_)
  refine run_seg (k := 1) (s' := (if r1 = 0 then (18, [some (vR 87), some (vI p1)], [], σ) else (9, [some (vR 87), some (vI p1)], [], σ))) rfl ?_
  refine run_ite hf (fun _ hf => ?_) (fun _ hf => ?_)
  · refine run_seg (k := 1) (s' := (19, [some (vR 87), some (vI p1)], [vL 0], σ)) rfl ?_
    exact run_ret hf rfl
  · refine run_seg (k := 3) (s' := (14, [some (vR 87), some (vI p1)], [vI p1, vR 91], σ)) rfl ?_
    refine run_guard (s' := (15, [some (vR 87), some (vI p1)], [vL (σ 91 p1.toNat)], σ)) hf rfl (fun hf => ?_)
    refine run_seg (k := 1) (s' := (19, [some (vR 87), some (vI p1)], [vL (σ 91 p1.toNat)], σ)) rfl ?_
    exact run_ret hf rfl
def f_Fraction_common_9 : Nat → Int → Int → Int → xSt → Option (Int)
  | 0, _, _, _, _ => none
  | n + 1, l4, l6, l8, σ =>
    if l8 < 200 then (if 0 < xlc l6 0 then (if l6 = 0 then none else
    xlet (xlrem l4 l6) fun x1 =>
    xlet (w32 (l8 + 1)) fun x2 =>
    f_Fraction_common_9 n l6 x1 x2 σ)
    else (some l4))
    else (some l4)
/-- BentPenny$Fraction.common(JJ)J -/
def f_Fraction_common (p0 : Int) (p1 : Int) (σ : xSt) : Option (Int) :=
  f_Fraction_common_9 1000000 p0 p1 0 σ
theorem r_Fraction_common_9 : ∀ (n : Nat) {l4 : Int} {l6 : Int} {l8 : Int} {g0 : Option xV} {g1 : Option xV} {g2 : Option xV} {g3 : Option xV} {g9 : Option xV} {g10 : Option xV} {σ : xSt} {r : Int}, f_Fraction_common_9 n l4 l6 l8 σ = some r → Run 0 2 3 kX2_common (9, [g0, g1, g2, g3, some (vL l4), none, some (vL l6), none, some (vI l8), g9, g10], [], σ) ((tL σ) r) := by
  intro n
  induction n with
  | zero =>
    intro _ _ _ _ _ _ _ _ _ _ _ h
    exact nomatch (show (none : Option (Int)) = some _ from h)
  | succ n ih =>
    intro l4 l6 l8 g0 g1 g2 g3 g9 g10 σ r hf
    unfold f_Fraction_common_9 at hf
    refine run_seg (k := 3) (s' := (if l8 < 200 then (17, [g0, g1, g2, g3, some (vL l4), none, some (vL l6), none, some (vI l8), g9, g10], [], σ) else (45, [g0, g1, g2, g3, some (vL l4), none, some (vL l6), none, some (vI l8), g9, g10], [], σ))) rfl ?_
    refine run_ite hf (fun _ hf => ?_) (fun _ hf => ?_)
    · refine run_seg (k := 4) (s' := (if 0 < xlc l6 0 then (24, [g0, g1, g2, g3, some (vL l4), none, some (vL l6), none, some (vI l8), g9, g10], [], σ) else (45, [g0, g1, g2, g3, some (vL l4), none, some (vL l6), none, some (vI l8), g9, g10], [], σ))) rfl ?_
      refine run_ite hf (fun _ hf => ?_) (fun _ hf => ?_)
      · refine run_seg (k := 2) (s' := (28, [g0, g1, g2, g3, some (vL l4), none, some (vL l6), none, some (vI l8), g9, g10], [vL l6, vL l4], σ)) rfl ?_
        refine run_gdiv (s' := (29, [g0, g1, g2, g3, some (vL l4), none, some (vL l6), none, some (vI l8), g9, g10], [vL (xlrem l4 l6)], σ)) hf rfl (fun hf => ?_)
        refine run_seg (k := 1) (s' := (31, [g0, g1, g2, g3, some (vL l4), none, some (vL l6), none, some (vI l8), some (vL (xlrem l4 l6)), none], [], σ)) rfl ?_
        refine run_let (fun x1 => (31, [g0, g1, g2, g3, some (vL l4), none, some (vL l6), none, some (vI l8), some (vL x1), none], [], σ)) hf (fun x1 hf => ?_)
        refine run_seg (k := 5) (s' := (42, [g0, g1, g2, g3, some (vL l6), none, some (vL x1), none, some (vI (w32 (l8 + 1))), some (vL x1), none], [], σ)) rfl ?_
        refine run_let (fun x2 => (42, [g0, g1, g2, g3, some (vL l6), none, some (vL x1), none, some (vI x2), some (vL x1), none], [], σ)) hf (fun x2 hf => ?_)
        refine run_seg (k := 1) (s' := (9, [g0, g1, g2, g3, some (vL l6), none, some (vL x1), none, some (vI x2), some (vL x1), none], [], σ)) rfl ?_
        exact ih hf
      · refine run_seg (k := 1) (s' := (47, [g0, g1, g2, g3, some (vL l4), none, some (vL l6), none, some (vI l8), g9, g10], [vL l4], σ)) rfl ?_
        exact run_ret hf rfl
    · refine run_seg (k := 1) (s' := (47, [g0, g1, g2, g3, some (vL l4), none, some (vL l6), none, some (vI l8), g9, g10], [vL l4], σ)) rfl ?_
      exact run_ret hf rfl
theorem c_Fraction_common {p0 : Int} {p1 : Int} {σ : xSt} {r : Int} (hf : f_Fraction_common p0 p1 σ = some r) : Call (0 + 1) 30 [vL p0, vL p1] σ ((tL σ) r).1 ((tL σ) r).2 := by
  unfold f_Fraction_common at hf
  refine call_of (own := 2) (rk := 3) (cd := kX2_common) (ls := [some (vL p0), none, some (vL p1), none, none, none, none, none, none, none, none]) (rT := (tL σ)) rfl rfl rfl rfl rfl ?_
  refine run_seg (k := 6) (s' := (9, [some (vL p0), none, some (vL p1), none, some (vL p0), none, some (vL p1), none, some (vI 0), none, none], [], σ)) rfl ?_
  exact r_Fraction_common_9 1000000 hf
/-- BentPenny$Fraction.put(JJ)Z -/
def f_Fraction_put (a0 : Nat) (p1 : Int) (p2 : Int) (σ : xSt) : Option (Int × xSt) :=
  if xlc p2 1 < 0 then (some (0, σ))
  else (xbR (f_Fraction_common (xlabs p1) p2 σ) fun r1 =>
  if xlc r1 1 < 0 then (some (0, σ))
  else (if r1 = 0 then none else
  xlet (upS σ a0 1 (xldiv p1 r1)) fun σ2 =>
  if r1 = 0 then none else
  xlet (upS σ2 a0 2 (xldiv p2 r1)) fun σ3 =>
  xlet (upS σ3 a0 0 1) fun σ4 =>
  some (1, σ4)))
theorem c_Fraction_put_95 {p1 : Int} {p2 : Int} {σ : xSt} {r : Int × xSt} (hf : f_Fraction_put 95 p1 p2 σ = some r) : Call (1 + 1) 28 [vR 95, vL p1, vL p2] σ (tIW r).1 (tIW r).2 := by
  unfold f_Fraction_put at hf
  refine call_of (own := 2) (rk := 2) (cd := kX2_put) (ls := [some (vR 95), some (vL p1), none, some (vL p2), none, none, none]) (rT := tIW) rfl rfl rfl rfl rfl ?_
  refine run_seg (k := 4) (s' := (if xlc p2 1 < 0 then (6, [some (vR 95), some (vL p1), none, some (vL p2), none, none, none], [], σ) else (8, [some (vR 95), some (vL p1), none, some (vL p2), none, none, none], [], σ))) rfl ?_
  refine run_ite hf (fun _ hf => ?_) (fun _ hf => ?_)
  · refine run_seg (k := 1) (s' := (7, [some (vR 95), some (vL p1), none, some (vL p2), none, none, none], [vI 0], σ)) rfl ?_
    exact run_ret hf rfl
  · refine run_seg (k := 3) (s' := (13, [some (vR 95), some (vL p1), none, some (vL p2), none, none, none], [vL p2, vL (xlabs p1)], σ)) rfl ?_
    refine run_callN (w := fun a => some (vL a)) (m := 30) (as := [vL (xlabs p1), vL p2]) (pc := 16) (ls := [some (vR 95), some (vL p1), none, some (vL p2), none, none, none]) (st' := []) (σ := σ) hf rfl (fun _ h => (c_Fraction_common h).mono (by decide)) (fun r1 hf => ?_)
    refine run_seg (k := 5) (s' := (if xlc r1 1 < 0 then (25, [some (vR 95), some (vL p1), none, some (vL p2), none, some (vL r1), none], [], σ) else (27, [some (vR 95), some (vL p1), none, some (vL p2), none, some (vL r1), none], [], σ))) rfl ?_
    refine run_ite hf (fun _ hf => ?_) (fun _ hf => ?_)
    · refine run_seg (k := 1) (s' := (26, [some (vR 95), some (vL p1), none, some (vL p2), none, some (vL r1), none], [vI 0], σ)) rfl ?_
      exact run_ret hf rfl
    · refine run_seg (k := 3) (s' := (31, [some (vR 95), some (vL p1), none, some (vL p2), none, some (vL r1), none], [vL r1, vL p1, vR 95], σ)) rfl ?_
      refine run_gdiv (s' := (32, [some (vR 95), some (vL p1), none, some (vL p2), none, some (vL r1), none], [vL (xldiv p1 r1), vR 95], σ)) hf rfl (fun hf => ?_)
      refine run_seg (k := 1) (s' := (35, [some (vR 95), some (vL p1), none, some (vL p2), none, some (vL r1), none], [], upS σ 95 1 (xldiv p1 r1))) rfl ?_
      refine run_let (fun σ2 => (35, [some (vR 95), some (vL p1), none, some (vL p2), none, some (vL r1), none], [], σ2)) hf (fun σ2 hf => ?_)
      refine run_seg (k := 3) (s' := (39, [some (vR 95), some (vL p1), none, some (vL p2), none, some (vL r1), none], [vL r1, vL p2, vR 95], σ2)) rfl ?_
      refine run_gdiv (s' := (40, [some (vR 95), some (vL p1), none, some (vL p2), none, some (vL r1), none], [vL (xldiv p2 r1), vR 95], σ2)) hf rfl (fun hf => ?_)
      refine run_seg (k := 1) (s' := (43, [some (vR 95), some (vL p1), none, some (vL p2), none, some (vL r1), none], [], upS σ2 95 2 (xldiv p2 r1))) rfl ?_
      refine run_let (fun σ3 => (43, [some (vR 95), some (vL p1), none, some (vL p2), none, some (vL r1), none], [], σ3)) hf (fun σ3 hf => ?_)
      refine run_seg (k := 3) (s' := (48, [some (vR 95), some (vL p1), none, some (vL p2), none, some (vL r1), none], [], upS σ3 95 0 1)) rfl ?_
      refine run_let (fun σ4 => (48, [some (vR 95), some (vL p1), none, some (vL p2), none, some (vL r1), none], [], σ4)) hf (fun σ4 hf => ?_)
      refine run_seg (k := 1) (s' := (49, [some (vR 95), some (vL p1), none, some (vL p2), none, some (vL r1), none], [vI 1], σ4)) rfl ?_
      exact run_ret hf rfl
theorem c_Fraction_put_104 {p1 : Int} {p2 : Int} {σ : xSt} {r : Int × xSt} (hf : f_Fraction_put 104 p1 p2 σ = some r) : Call (1 + 1) 28 [vR 104, vL p1, vL p2] σ (tIW r).1 (tIW r).2 := by
  unfold f_Fraction_put at hf
  refine call_of (own := 2) (rk := 2) (cd := kX2_put) (ls := [some (vR 104), some (vL p1), none, some (vL p2), none, none, none]) (rT := tIW) rfl rfl rfl rfl rfl ?_
  refine run_seg (k := 4) (s' := (if xlc p2 1 < 0 then (6, [some (vR 104), some (vL p1), none, some (vL p2), none, none, none], [], σ) else (8, [some (vR 104), some (vL p1), none, some (vL p2), none, none, none], [], σ))) rfl ?_
  refine run_ite hf (fun _ hf => ?_) (fun _ hf => ?_)
  · refine run_seg (k := 1) (s' := (7, [some (vR 104), some (vL p1), none, some (vL p2), none, none, none], [vI 0], σ)) rfl ?_
    exact run_ret hf rfl
  · refine run_seg (k := 3) (s' := (13, [some (vR 104), some (vL p1), none, some (vL p2), none, none, none], [vL p2, vL (xlabs p1)], σ)) rfl ?_
    refine run_callN (w := fun a => some (vL a)) (m := 30) (as := [vL (xlabs p1), vL p2]) (pc := 16) (ls := [some (vR 104), some (vL p1), none, some (vL p2), none, none, none]) (st' := []) (σ := σ) hf rfl (fun _ h => (c_Fraction_common h).mono (by decide)) (fun r1 hf => ?_)
    refine run_seg (k := 5) (s' := (if xlc r1 1 < 0 then (25, [some (vR 104), some (vL p1), none, some (vL p2), none, some (vL r1), none], [], σ) else (27, [some (vR 104), some (vL p1), none, some (vL p2), none, some (vL r1), none], [], σ))) rfl ?_
    refine run_ite hf (fun _ hf => ?_) (fun _ hf => ?_)
    · refine run_seg (k := 1) (s' := (26, [some (vR 104), some (vL p1), none, some (vL p2), none, some (vL r1), none], [vI 0], σ)) rfl ?_
      exact run_ret hf rfl
    · refine run_seg (k := 3) (s' := (31, [some (vR 104), some (vL p1), none, some (vL p2), none, some (vL r1), none], [vL r1, vL p1, vR 104], σ)) rfl ?_
      refine run_gdiv (s' := (32, [some (vR 104), some (vL p1), none, some (vL p2), none, some (vL r1), none], [vL (xldiv p1 r1), vR 104], σ)) hf rfl (fun hf => ?_)
      refine run_seg (k := 1) (s' := (35, [some (vR 104), some (vL p1), none, some (vL p2), none, some (vL r1), none], [], upS σ 104 1 (xldiv p1 r1))) rfl ?_
      refine run_let (fun σ2 => (35, [some (vR 104), some (vL p1), none, some (vL p2), none, some (vL r1), none], [], σ2)) hf (fun σ2 hf => ?_)
      refine run_seg (k := 3) (s' := (39, [some (vR 104), some (vL p1), none, some (vL p2), none, some (vL r1), none], [vL r1, vL p2, vR 104], σ2)) rfl ?_
      refine run_gdiv (s' := (40, [some (vR 104), some (vL p1), none, some (vL p2), none, some (vL r1), none], [vL (xldiv p2 r1), vR 104], σ2)) hf rfl (fun hf => ?_)
      refine run_seg (k := 1) (s' := (43, [some (vR 104), some (vL p1), none, some (vL p2), none, some (vL r1), none], [], upS σ2 104 2 (xldiv p2 r1))) rfl ?_
      refine run_let (fun σ3 => (43, [some (vR 104), some (vL p1), none, some (vL p2), none, some (vL r1), none], [], σ3)) hf (fun σ3 hf => ?_)
      refine run_seg (k := 3) (s' := (48, [some (vR 104), some (vL p1), none, some (vL p2), none, some (vL r1), none], [], upS σ3 104 0 1)) rfl ?_
      refine run_let (fun σ4 => (48, [some (vR 104), some (vL p1), none, some (vL p2), none, some (vL r1), none], [], σ4)) hf (fun σ4 hf => ?_)
      refine run_seg (k := 1) (s' := (49, [some (vR 104), some (vL p1), none, some (vL p2), none, some (vL r1), none], [vI 1], σ4)) rfl ?_
      exact run_ret hf rfl
theorem c_Fraction_put_106 {p1 : Int} {p2 : Int} {σ : xSt} {r : Int × xSt} (hf : f_Fraction_put 106 p1 p2 σ = some r) : Call (1 + 1) 28 [vR 106, vL p1, vL p2] σ (tIW r).1 (tIW r).2 := by
  unfold f_Fraction_put at hf
  refine call_of (own := 2) (rk := 2) (cd := kX2_put) (ls := [some (vR 106), some (vL p1), none, some (vL p2), none, none, none]) (rT := tIW) rfl rfl rfl rfl rfl ?_
  refine run_seg (k := 4) (s' := (if xlc p2 1 < 0 then (6, [some (vR 106), some (vL p1), none, some (vL p2), none, none, none], [], σ) else (8, [some (vR 106), some (vL p1), none, some (vL p2), none, none, none], [], σ))) rfl ?_
  refine run_ite hf (fun _ hf => ?_) (fun _ hf => ?_)
  · refine run_seg (k := 1) (s' := (7, [some (vR 106), some (vL p1), none, some (vL p2), none, none, none], [vI 0], σ)) rfl ?_
    exact run_ret hf rfl
  · refine run_seg (k := 3) (s' := (13, [some (vR 106), some (vL p1), none, some (vL p2), none, none, none], [vL p2, vL (xlabs p1)], σ)) rfl ?_
    refine run_callN (w := fun a => some (vL a)) (m := 30) (as := [vL (xlabs p1), vL p2]) (pc := 16) (ls := [some (vR 106), some (vL p1), none, some (vL p2), none, none, none]) (st' := []) (σ := σ) hf rfl (fun _ h => (c_Fraction_common h).mono (by decide)) (fun r1 hf => ?_)
    refine run_seg (k := 5) (s' := (if xlc r1 1 < 0 then (25, [some (vR 106), some (vL p1), none, some (vL p2), none, some (vL r1), none], [], σ) else (27, [some (vR 106), some (vL p1), none, some (vL p2), none, some (vL r1), none], [], σ))) rfl ?_
    refine run_ite hf (fun _ hf => ?_) (fun _ hf => ?_)
    · refine run_seg (k := 1) (s' := (26, [some (vR 106), some (vL p1), none, some (vL p2), none, some (vL r1), none], [vI 0], σ)) rfl ?_
      exact run_ret hf rfl
    · refine run_seg (k := 3) (s' := (31, [some (vR 106), some (vL p1), none, some (vL p2), none, some (vL r1), none], [vL r1, vL p1, vR 106], σ)) rfl ?_
      refine run_gdiv (s' := (32, [some (vR 106), some (vL p1), none, some (vL p2), none, some (vL r1), none], [vL (xldiv p1 r1), vR 106], σ)) hf rfl (fun hf => ?_)
      refine run_seg (k := 1) (s' := (35, [some (vR 106), some (vL p1), none, some (vL p2), none, some (vL r1), none], [], upS σ 106 1 (xldiv p1 r1))) rfl ?_
      refine run_let (fun σ2 => (35, [some (vR 106), some (vL p1), none, some (vL p2), none, some (vL r1), none], [], σ2)) hf (fun σ2 hf => ?_)
      refine run_seg (k := 3) (s' := (39, [some (vR 106), some (vL p1), none, some (vL p2), none, some (vL r1), none], [vL r1, vL p2, vR 106], σ2)) rfl ?_
      refine run_gdiv (s' := (40, [some (vR 106), some (vL p1), none, some (vL p2), none, some (vL r1), none], [vL (xldiv p2 r1), vR 106], σ2)) hf rfl (fun hf => ?_)
      refine run_seg (k := 1) (s' := (43, [some (vR 106), some (vL p1), none, some (vL p2), none, some (vL r1), none], [], upS σ2 106 2 (xldiv p2 r1))) rfl ?_
      refine run_let (fun σ3 => (43, [some (vR 106), some (vL p1), none, some (vL p2), none, some (vL r1), none], [], σ3)) hf (fun σ3 hf => ?_)
      refine run_seg (k := 3) (s' := (48, [some (vR 106), some (vL p1), none, some (vL p2), none, some (vL r1), none], [], upS σ3 106 0 1)) rfl ?_
      refine run_let (fun σ4 => (48, [some (vR 106), some (vL p1), none, some (vL p2), none, some (vL r1), none], [], σ4)) hf (fun σ4 hf => ?_)
      refine run_seg (k := 1) (s' := (49, [some (vR 106), some (vL p1), none, some (vL p2), none, some (vL r1), none], [vI 1], σ4)) rfl ?_
      exact run_ret hf rfl
/-- BentPenny$Fraction.part(I)J -/
def f_Fraction_part (a0 : Nat) (p1 : Int) (σ : xSt) : Option (Int) :=
  if p1 = 0 then (some (σ a0 1))
  else (some (σ a0 2))
theorem c_Fraction_part_95 {p1 : Int} {σ : xSt} {r : Int} (hf : f_Fraction_part 95 p1 σ = some r) : Call (0 + 1) 29 [vR 95, vI p1] σ ((tL σ) r).1 ((tL σ) r).2 := by
  unfold f_Fraction_part at hf
  refine call_of (own := 2) (rk := 3) (cd := kX2_part) (ls := [some (vR 95), some (vI p1)]) (rT := (tL σ)) rfl rfl rfl rfl rfl ?_
  refine run_seg (k := 2) (s' := (if p1 = 0 then (4, [some (vR 95), some (vI p1)], [], σ) else (11, [some (vR 95), some (vI p1)], [], σ))) rfl ?_
  refine run_ite hf (fun _ hf => ?_) (fun _ hf => ?_)
  · refine run_seg (k := 3) (s' := (15, [some (vR 95), some (vI p1)], [vL (σ 95 1)], σ)) rfl ?_
    exact run_ret hf rfl
  · refine run_seg (k := 2) (s' := (15, [some (vR 95), some (vI p1)], [vL (σ 95 2)], σ)) rfl ?_
    exact run_ret hf rfl
theorem c_Fraction_part_104 {p1 : Int} {σ : xSt} {r : Int} (hf : f_Fraction_part 104 p1 σ = some r) : Call (0 + 1) 29 [vR 104, vI p1] σ ((tL σ) r).1 ((tL σ) r).2 := by
  unfold f_Fraction_part at hf
  refine call_of (own := 2) (rk := 3) (cd := kX2_part) (ls := [some (vR 104), some (vI p1)]) (rT := (tL σ)) rfl rfl rfl rfl rfl ?_
  refine run_seg (k := 2) (s' := (if p1 = 0 then (4, [some (vR 104), some (vI p1)], [], σ) else (11, [some (vR 104), some (vI p1)], [], σ))) rfl ?_
  refine run_ite hf (fun _ hf => ?_) (fun _ hf => ?_)
  · refine run_seg (k := 3) (s' := (15, [some (vR 104), some (vI p1)], [vL (σ 104 1)], σ)) rfl ?_
    exact run_ret hf rfl
  · refine run_seg (k := 2) (s' := (15, [some (vR 104), some (vI p1)], [vL (σ 104 2)], σ)) rfl ?_
    exact run_ret hf rfl
theorem c_Fraction_part_106 {p1 : Int} {σ : xSt} {r : Int} (hf : f_Fraction_part 106 p1 σ = some r) : Call (0 + 1) 29 [vR 106, vI p1] σ ((tL σ) r).1 ((tL σ) r).2 := by
  unfold f_Fraction_part at hf
  refine call_of (own := 2) (rk := 3) (cd := kX2_part) (ls := [some (vR 106), some (vI p1)]) (rT := (tL σ)) rfl rfl rfl rfl rfl ?_
  refine run_seg (k := 2) (s' := (if p1 = 0 then (4, [some (vR 106), some (vI p1)], [], σ) else (11, [some (vR 106), some (vI p1)], [], σ))) rfl ?_
  refine run_ite hf (fun _ hf => ?_) (fun _ hf => ?_)
  · refine run_seg (k := 3) (s' := (15, [some (vR 106), some (vI p1)], [vL (σ 106 1)], σ)) rfl ?_
    exact run_ret hf rfl
  · refine run_seg (k := 2) (s' := (15, [some (vR 106), some (vI p1)], [vL (σ 106 2)], σ)) rfl ?_
    exact run_ret hf rfl
/-- BentPenny.told(JJI)J -/
def f_X_told (p1 : Int) (p2 : Int) (p3 : Int) (σ : xSt) : Option (Int × xSt) :=
  xbW (f_Fraction_put 95 p1 p2 σ) fun r1 σ2 =>
  xbR (f_Fraction_part 95 p3 σ2) fun r3 =>
  some (r3, σ2)
theorem c_X_told {p1 : Int} {p2 : Int} {p3 : Int} {σ : xSt} {r : Int × xSt} (hf : f_X_told p1 p2 p3 σ = some r) : Call (2 + 1) 167 [vR 0, vL p1, vL p2, vI p3] σ (tLW r).1 (tLW r).2 := by
  unfold f_X_told at hf
  refine call_of (own := 11) (rk := 3) (cd := kX11_told) (ls := [some (vR 0), some (vL p1), none, some (vL p2), none, some (vI p3)]) (rT := tLW) rfl rfl rfl rfl rfl ?_
  refine run_seg (k := 4) (s' := (6, [some (vR 0), some (vL p1), none, some (vL p2), none, some (vI p3)], [vL p2, vL p1, vR 95], σ)) rfl ?_
  refine run_callW (w := fun a => some (vI a)) (m := 28) (as := [vR 95, vL p1, vL p2]) (pc := 9) (ls := [some (vR 0), some (vL p1), none, some (vL p2), none, some (vI p3)]) (st' := []) (σ := σ) hf rfl (fun _ _ h => (c_Fraction_put_95 h).mono (by decide)) (fun r1 σ2 hf => ?_)
  refine run_seg (k := 4) (s' := (16, [some (vR 0), some (vL p1), none, some (vL p2), none, some (vI p3)], [vI p3, vR 95], σ2)) rfl ?_
  refine run_callN (w := fun a => some (vL a)) (m := 29) (as := [vR 95, vI p3]) (pc := 19) (ls := [some (vR 0), some (vL p1), none, some (vL p2), none, some (vI p3)]) (st' := []) (σ := σ2) hf rfl (fun _ h => (c_Fraction_part_95 h).mono (by decide)) (fun r3 hf => ?_)
  exact run_ret hf rfl
/-- BentPenny.chance(II)J -/
def f_X_chance (p1 : Int) (p2 : Int) (σ : xSt) : Option (Option Int × xSt) :=
  xbR (f_Way_hasThing (σ 7 3) σ) fun r1 =>
  if r1 = 0 then (xbR (f_Table_hasEnd p1 σ) fun r2 =>
  if r2 = 0 then (some (none, σ))
  else (xbW (f_X_spreadBy 0 1 p2 σ) fun r3 σ4 =>
  if r3 = 0 then (some (none, σ4))
  else (xbR (f_Odds_endWeight p1 σ4) fun r5 =>
  xbW (f_X_told r5 (w64 ((σ4 87 7) - (σ4 87 8))) p2 σ4) fun r6 σ7 =>
  some (some r6, σ7))))
  else (some (none, σ))
theorem c_X_chance {p1 : Int} {p2 : Int} {σ : xSt} {r : Option Int × xSt} (hf : f_X_chance p1 p2 σ = some r) : Call (6 + 1) 164 [vR 0, vI p1, vI p2] σ (tXL r).1 (tXL r).2 := by
  unfold f_X_chance at hf
  refine call_of (own := 11) (rk := 3) (cd := kX11_chance) (ls := [some (vR 0), some (vI p1), some (vI p2), none]) (rT := tXL) rfl rfl rfl rfl rfl ?_
  refine run_seg (k := 7) (s' := (17, [some (vR 0), some (vI p1), some (vI p2), none], [vI (σ 7 3), vR 16], σ)) rfl ?_
  refine run_callN (w := fun a => some (vI a)) (m := 138) (as := [vR 16, vI (σ 7 3)]) (pc := 20) (ls := [some (vR 0), some (vI p1), some (vI p2), none]) (st' := []) (σ := σ) hf rfl (fun _ h => (c_Way_hasThing h).mono (by decide)) (fun r1 hf => ?_)
  refine run_seg (k := 3) (s' := (if r1 = 0 then (25, [some (vR 0), some (vI p1), some (vI p2), some (vI r1)], [], σ) else (49, [some (vR 0), some (vI p1), some (vI p2), some (vI r1)], [], σ))) rfl ?_
  refine run_ite hf (fun _ hf => ?_) (fun _ hf => ?_)
  · refine run_seg (k := 4) (s' := (33, [some (vR 0), some (vI p1), some (vI p2), some (vI r1)], [vI p1, vR 7], σ)) rfl ?_
    refine run_callN (w := fun a => some (vI a)) (m := 85) (as := [vR 7, vI p1]) (pc := 36) (ls := [some (vR 0), some (vI p1), some (vI p2), some (vI r1)]) (st' := []) (σ := σ) hf rfl (fun _ h => (c_Table_hasEnd h).mono (by decide)) (fun r2 hf => ?_)
    refine run_seg (k := 1) (s' := (if r2 = 0 then (49, [some (vR 0), some (vI p1), some (vI p2), some (vI r1)], [], σ) else (39, [some (vR 0), some (vI p1), some (vI p2), some (vI r1)], [], σ))) rfl ?_
    refine run_ite hf (fun _ hf => ?_) (fun _ hf => ?_)
    · exact run_ret hf rfl
    · refine run_seg (k := 4) (s' := (43, [some (vR 0), some (vI p1), some (vI p2), some (vI r1)], [vI p2, vI 1, vI 0, vR 0], σ)) rfl ?_
      refine run_callW (w := fun a => some (vI a)) (m := 168) (as := [vR 0, vI 0, vI 1, vI p2]) (pc := 46) (ls := [some (vR 0), some (vI p1), some (vI p2), some (vI r1)]) (st' := []) (σ := σ) hf rfl (fun _ _ h => (c_X_spreadBy h).mono (by decide)) (fun r3 σ4 hf => ?_)
      refine run_seg (k := 1) (s' := (if r3 = 0 then (49, [some (vR 0), some (vI p1), some (vI p2), some (vI r1)], [], σ4) else (57, [some (vR 0), some (vI p1), some (vI p2), some (vI r1)], [], σ4))) rfl ?_
      refine run_ite hf (fun _ hf => ?_) (fun _ hf => ?_)
      · exact run_ret hf rfl
      · refine run_seg (k := 4) (s' := (63, [some (vR 0), some (vI p1), some (vI p2), some (vI r1)], [vI p1, vR 87, vR 0], σ4)) rfl ?_
        refine run_callN (w := fun a => some (vL a)) (m := 48) (as := [vR 87, vI p1]) (pc := 66) (ls := [some (vR 0), some (vI p1), some (vI p2), some (vI r1)]) (st' := [vR 0]) (σ := σ4) hf rfl (fun _ h => (c_Odds_endWeight h).mono (by decide)) (fun r5 hf => ?_)
        refine run_seg (k := 8) (s' := (82, [some (vR 0), some (vI p1), some (vI p2), some (vI r1)], [vI p2, vL (w64 ((σ4 87 7) - (σ4 87 8))), vL r5, vR 0], σ4)) rfl ?_
        refine run_callW (w := fun a => some (vL a)) (m := 167) (as := [vR 0, vL r5, vL (w64 ((σ4 87 7) - (σ4 87 8))), vI p2]) (pc := 85) (ls := [some (vR 0), some (vI p1), some (vI p2), some (vI r1)]) (st' := []) (σ := σ4) hf rfl (fun _ _ h => (c_X_told h).mono (by decide)) (fun r6 σ7 hf => ?_)
        exact run_ret hf rfl
  · exact run_ret hf rfl
/-- BentPenny.chanceAt(IIII)J -/
def f_X_chanceAt (p1 : Int) (p2 : Int) (p3 : Int) (p4 : Int) (σ : xSt) : Option (Option Int × xSt) :=
  xbR (f_Table_hasEnd p1 σ) fun r1 =>
  if r1 = 0 then (some (none, σ))
  else (xbW (f_X_spreadBy p2 p3 p4 σ) fun r2 σ3 =>
  if r2 = 0 then (some (none, σ3))
  else (xbR (f_Odds_endWeight p1 σ3) fun r4 =>
  xbW (f_X_told r4 (w64 ((σ3 87 7) - (σ3 87 8))) p4 σ3) fun r5 σ6 =>
  some (some r5, σ6)))
theorem c_X_chanceAt {p1 : Int} {p2 : Int} {p3 : Int} {p4 : Int} {σ : xSt} {r : Option Int × xSt} (hf : f_X_chanceAt p1 p2 p3 p4 σ = some r) : Call (6 + 1) 165 [vR 0, vI p1, vI p2, vI p3, vI p4] σ (tXL r).1 (tXL r).2 := by
  unfold f_X_chanceAt at hf
  refine call_of (own := 11) (rk := 3) (cd := kX11_chanceAt) (ls := [some (vR 0), some (vI p1), some (vI p2), some (vI p3), some (vI p4)]) (rT := tXL) rfl rfl rfl rfl rfl ?_
  refine run_seg (k := 4) (s' := (8, [some (vR 0), some (vI p1), some (vI p2), some (vI p3), some (vI p4)], [vI p1, vR 7], σ)) rfl ?_
  refine run_callN (w := fun a => some (vI a)) (m := 85) (as := [vR 7, vI p1]) (pc := 11) (ls := [some (vR 0), some (vI p1), some (vI p2), some (vI p3), some (vI p4)]) (st' := []) (σ := σ) hf rfl (fun _ h => (c_Table_hasEnd h).mono (by decide)) (fun r1 hf => ?_)
  refine run_seg (k := 1) (s' := (if r1 = 0 then (25, [some (vR 0), some (vI p1), some (vI p2), some (vI p3), some (vI p4)], [], σ) else (14, [some (vR 0), some (vI p1), some (vI p2), some (vI p3), some (vI p4)], [], σ))) rfl ?_
  refine run_ite hf (fun _ hf => ?_) (fun _ hf => ?_)
  · exact run_ret hf rfl
  · refine run_seg (k := 4) (s' := (19, [some (vR 0), some (vI p1), some (vI p2), some (vI p3), some (vI p4)], [vI p4, vI p3, vI p2, vR 0], σ)) rfl ?_
    refine run_callW (w := fun a => some (vI a)) (m := 168) (as := [vR 0, vI p2, vI p3, vI p4]) (pc := 22) (ls := [some (vR 0), some (vI p1), some (vI p2), some (vI p3), some (vI p4)]) (st' := []) (σ := σ) hf rfl (fun _ _ h => (c_X_spreadBy h).mono (by decide)) (fun r2 σ3 hf => ?_)
    refine run_seg (k := 1) (s' := (if r2 = 0 then (25, [some (vR 0), some (vI p1), some (vI p2), some (vI p3), some (vI p4)], [], σ3) else (33, [some (vR 0), some (vI p1), some (vI p2), some (vI p3), some (vI p4)], [], σ3))) rfl ?_
    refine run_ite hf (fun _ hf => ?_) (fun _ hf => ?_)
    · exact run_ret hf rfl
    · refine run_seg (k := 4) (s' := (39, [some (vR 0), some (vI p1), some (vI p2), some (vI p3), some (vI p4)], [vI p1, vR 87, vR 0], σ3)) rfl ?_
      refine run_callN (w := fun a => some (vL a)) (m := 48) (as := [vR 87, vI p1]) (pc := 42) (ls := [some (vR 0), some (vI p1), some (vI p2), some (vI p3), some (vI p4)]) (st' := [vR 0]) (σ := σ3) hf rfl (fun _ h => (c_Odds_endWeight h).mono (by decide)) (fun r4 hf => ?_)
      refine run_seg (k := 8) (s' := (59, [some (vR 0), some (vI p1), some (vI p2), some (vI p3), some (vI p4)], [vI p4, vL (w64 ((σ3 87 7) - (σ3 87 8))), vL r4, vR 0], σ3)) rfl ?_
      refine run_callW (w := fun a => some (vL a)) (m := 167) (as := [vR 0, vL r4, vL (w64 ((σ3 87 7) - (σ3 87 8))), vI p4]) (pc := 62) (ls := [some (vR 0), some (vI p1), some (vI p2), some (vI p3), some (vI p4)]) (st' := []) (σ := σ3) hf rfl (fun _ _ h => (c_X_told h).mono (by decide)) (fun r5 σ6 hf => ?_)
      exact run_ret hf rfl
/-- BentPenny.mean(III)J -/
def f_X_mean (p1 : Int) (p2 : Int) (p3 : Int) (σ : xSt) : Option (Option Int × xSt) :=
  xbW (f_X_spreadBy p1 p2 p3 σ) fun r1 σ2 =>
  if r1 = 0 then (some (none, σ2))
  else (xbW (f_X_told (σ2 87 9) (w64 ((σ2 87 7) - (σ2 87 8))) p3 σ2) fun r3 σ4 =>
  some (some r3, σ4))
theorem c_X_mean {p1 : Int} {p2 : Int} {p3 : Int} {σ : xSt} {r : Option Int × xSt} (hf : f_X_mean p1 p2 p3 σ = some r) : Call (6 + 1) 166 [vR 0, vI p1, vI p2, vI p3] σ (tXL r).1 (tXL r).2 := by
  unfold f_X_mean at hf
  refine call_of (own := 11) (rk := 3) (cd := kX11_mean) (ls := [some (vR 0), some (vI p1), some (vI p2), some (vI p3)]) (rT := tXL) rfl rfl rfl rfl rfl ?_
  refine run_seg (k := 4) (s' := (4, [some (vR 0), some (vI p1), some (vI p2), some (vI p3)], [vI p3, vI p2, vI p1, vR 0], σ)) rfl ?_
  refine run_callW (w := fun a => some (vI a)) (m := 168) (as := [vR 0, vI p1, vI p2, vI p3]) (pc := 7) (ls := [some (vR 0), some (vI p1), some (vI p2), some (vI p3)]) (st' := []) (σ := σ) hf rfl (fun _ _ h => (c_X_spreadBy h).mono (by decide)) (fun r1 σ2 hf => ?_)
  refine run_seg (k := 1) (s' := (if r1 = 0 then (10, [some (vR 0), some (vI p1), some (vI p2), some (vI p3)], [], σ2) else (18, [some (vR 0), some (vI p1), some (vI p2), some (vI p3)], [], σ2))) rfl ?_
  refine run_ite hf (fun _ hf => ?_) (fun _ hf => ?_)
  · exact run_ret hf rfl
  · refine run_seg (k := 12) (s' := (42, [some (vR 0), some (vI p1), some (vI p2), some (vI p3)], [vI p3, vL (w64 ((σ2 87 7) - (σ2 87 8))), vL (σ2 87 9), vR 0], σ2)) rfl ?_
    refine run_callW (w := fun a => some (vL a)) (m := 167) (as := [vR 0, vL (σ2 87 9), vL (w64 ((σ2 87 7) - (σ2 87 8))), vI p3]) (pc := 45) (ls := [some (vR 0), some (vI p1), some (vI p2), some (vI p3)]) (st' := []) (σ := σ2) hf rfl (fun _ _ h => (c_X_told h).mono (by decide)) (fun r3 σ4 hf => ?_)
    exact run_ret hf rfl
def f_Fraction_choices_16 : Nat → Int → Int → Int → Int → xSt → Option (Int)
  | 0, _, _, _, _, _ => none
  | n + 1, l0, l1, l2, l4, σ =>
    if l4 < l1 then (if w32 (l4 + 1) = 0 then none else
    xlet (xldiv (w64 (l2 * (w32 (l0 - l4)))) (w32 (l4 + 1))) fun x1 =>
    xlet (w32 (l4 + 1)) fun x2 =>
    f_Fraction_choices_16 n l0 l1 x1 x2 σ)
    else (some l2)
/-- BentPenny$Fraction.choices(II)J -/
def f_Fraction_choices (p0 : Int) (p1 : Int) (σ : xSt) : Option (Int) :=
  if p1 < 0 then (some 0)
  else (if p0 < p1 then (some 0)
  else (f_Fraction_choices_16 1000000 p0 p1 1 0 σ))
theorem r_Fraction_choices_16 : ∀ (n : Nat) {l0 : Int} {l1 : Int} {l2 : Int} {l4 : Int} {σ : xSt} {r : Int}, f_Fraction_choices_16 n l0 l1 l2 l4 σ = some r → Run 0 2 3 kX2_choices (16, [some (vI l0), some (vI l1), some (vL l2), none, some (vI l4)], [], σ) ((tL σ) r) := by
  intro n
  induction n with
  | zero =>
    intro _ _ _ _ _ _ h
    exact nomatch (show (none : Option (Int)) = some _ from h)
  | succ n ih =>
    intro l0 l1 l2 l4 σ r hf
    unfold f_Fraction_choices_16 at hf
    refine run_seg (k := 3) (s' := (if l4 < l1 then (22, [some (vI l0), some (vI l1), some (vL l2), none, some (vI l4)], [], σ) else (42, [some (vI l0), some (vI l1), some (vL l2), none, some (vI l4)], [], σ))) rfl ?_
    refine run_ite hf (fun _ hf => ?_) (fun _ hf => ?_)
    · refine run_seg (k := 10) (s' := (34, [some (vI l0), some (vI l1), some (vL l2), none, some (vI l4)], [vL (w32 (l4 + 1)), vL (w64 (l2 * (w32 (l0 - l4))))], σ)) rfl ?_
      refine run_gdiv (s' := (35, [some (vI l0), some (vI l1), some (vL l2), none, some (vI l4)], [vL (xldiv (w64 (l2 * (w32 (l0 - l4)))) (w32 (l4 + 1)))], σ)) hf rfl (fun hf => ?_)
      refine run_seg (k := 1) (s' := (36, [some (vI l0), some (vI l1), some (vL (xldiv (w64 (l2 * (w32 (l0 - l4)))) (w32 (l4 + 1)))), none, some (vI l4)], [], σ)) rfl ?_
      refine run_let (fun x1 => (36, [some (vI l0), some (vI l1), some (vL x1), none, some (vI l4)], [], σ)) hf (fun x1 hf => ?_)
      refine run_seg (k := 1) (s' := (39, [some (vI l0), some (vI l1), some (vL x1), none, some (vI (w32 (l4 + 1)))], [], σ)) rfl ?_
      refine run_let (fun x2 => (39, [some (vI l0), some (vI l1), some (vL x1), none, some (vI x2)], [], σ)) hf (fun x2 hf => ?_)
      refine run_seg (k := 1) (s' := (16, [some (vI l0), some (vI l1), some (vL x1), none, some (vI x2)], [], σ)) rfl ?_
      exact ih hf
    · refine run_seg (k := 1) (s' := (43, [some (vI l0), some (vI l1), some (vL l2), none, some (vI l4)], [vL l2], σ)) rfl ?_
      exact run_ret hf rfl
theorem c_Fraction_choices {p0 : Int} {p1 : Int} {σ : xSt} {r : Int} (hf : f_Fraction_choices p0 p1 σ = some r) : Call (0 + 1) 32 [vI p0, vI p1] σ ((tL σ) r).1 ((tL σ) r).2 := by
  unfold f_Fraction_choices at hf
  refine call_of (own := 2) (rk := 3) (cd := kX2_choices) (ls := [some (vI p0), some (vI p1), none, none, none]) (rT := (tL σ)) rfl rfl rfl rfl rfl ?_
  refine run_seg (k := 2) (s' := (if p1 < 0 then (9, [some (vI p0), some (vI p1), none, none, none], [], σ) else (4, [some (vI p0), some (vI p1), none, none, none], [], σ))) rfl ?_
  refine run_ite hf (fun _ hf => ?_) (fun _ hf => ?_)
  · refine run_seg (k := 1) (s' := (10, [some (vI p0), some (vI p1), none, none, none], [vL 0], σ)) rfl ?_
    exact run_ret hf rfl
  · refine run_seg (k := 3) (s' := (if p0 < p1 then (9, [some (vI p0), some (vI p1), none, none, none], [], σ) else (11, [some (vI p0), some (vI p1), none, none, none], [], σ))) rfl ?_
    refine run_ite hf (fun _ hf => ?_) (fun _ hf => ?_)
    · refine run_seg (k := 1) (s' := (10, [some (vI p0), some (vI p1), none, none, none], [vL 0], σ)) rfl ?_
      exact run_ret hf rfl
    · refine run_seg (k := 4) (s' := (16, [some (vI p0), some (vI p1), some (vL 1), none, some (vI 0)], [], σ)) rfl ?_
      exact r_Fraction_choices_16 1000000 hf
def f_Odds_addPowers_20 : Nat → Int → Int → Int → Int → xSt → Option (xSt)
  | 0, _, _, _, _, _ => none
  | n + 1, l1, l2, l3, l5, σ =>
    if 0 ≤ l2 ∧ l2 < 80 then (
    if σ 90 l2.toNat < l5 then (some σ)
    else (if 0 ≤ l2 ∧ l2 < 80 then (
    xlet (w32 ((σ 89 l2.toNat) + l5)) fun x3 =>
    xbR (f_X_isWithin l1 7 σ) fun r4 =>
    if r4 = 0 then (xlet (w64 (-l3)) fun x5 =>
    xlet (w32 (l5 + 1)) fun x6 =>
    f_Odds_addPowers_20 n l1 l2 x5 x6 σ)
    else (xbR (f_X_isWithin x3 7 σ) fun r7 =>
    if r7 = 0 then (xlet (w64 (-l3)) fun x8 =>
    xlet (w32 (l5 + 1)) fun x9 =>
    f_Odds_addPowers_20 n l1 l2 x8 x9 σ)
    else (if 0 ≤ w32 ((w32 (l1 * 7)) + x3) ∧ w32 ((w32 (l1 * 7)) + x3) < 49 then (
    if 0 ≤ l2 ∧ l2 < 80 then (
    xbR (f_Fraction_choices (σ 90 l2.toNat) l5 σ) fun r10 =>
    if 0 ≤ w32 ((w32 (l1 * 7)) + x3) ∧ w32 ((w32 (l1 * 7)) + x3) < 49 then (
    xlet (upS σ 92 (w32 ((w32 (l1 * 7)) + x3)).toNat (w64 ((σ 92 (w32 ((w32 (l1 * 7)) + x3)).toNat) + (w64 (l3 * r10))))) fun σ11 =>
    xlet (w64 (-l3)) fun x12 =>
    xlet (w32 (l5 + 1)) fun x13 =>
    f_Odds_addPowers_20 n l1 l2 x12 x13 σ11) else none) else none) else none))) else none)) else none
/-- BentPenny$Odds.addPowers(II)V -/
def f_Odds_addPowers (p1 : Int) (p2 : Int) (σ : xSt) : Option (xSt) :=
  xbR (f_X_isWithin p2 80 σ) fun r1 =>
  if r1 = 0 then (some σ)
  else (if 0 ≤ p2 ∧ p2 < 80 then (
  xlet (σ 88 p2.toNat) fun x2 =>
  f_Odds_addPowers_20 1000000 p1 p2 x2 0 σ) else none)
theorem r_Odds_addPowers_20 : ∀ (n : Nat) {l1 : Int} {l2 : Int} {l3 : Int} {l5 : Int} {g6 : Option xV} {σ : xSt} {r : xSt}, f_Odds_addPowers_20 n l1 l2 l3 l5 σ = some r → Run 1 4 0 kX4_addPowers (20, [some (vR 87), some (vI l1), some (vI l2), some (vL l3), none, some (vI l5), g6], [], σ) (tV r) := by
  intro n
  induction n with
  | zero =>
    intro _ _ _ _ _ _ _ h
    exact nomatch (show (none : Option (xSt)) = some _ from h)
  | succ n ih =>
    intro l1 l2 l3 l5 g6 σ r hf
    unfold f_Odds_addPowers_20 at hf
    refine run_seg (k := 4) (s' := (27, [some (vR 87), some (vI l1), some (vI l2), some (vL l3), none, some (vI l5), g6], [vI l2, vR 90, vI l5], σ)) rfl ?_
    refine run_guard (s' := (28, [some (vR 87), some (vI l1), some (vI l2), some (vL l3), none, some (vI l5), g6], [vI (σ 90 l2.toNat), vI l5], σ)) hf rfl (fun hf => ?_)
    refine run_seg (k := 1) (s' := (if σ 90 l2.toNat < l5 then (98, [some (vR 87), some (vI l1), some (vI l2), some (vL l3), none, some (vI l5), g6], [], σ) else (31, [some (vR 87), some (vI l1), some (vI l2), some (vL l3), none, some (vI l5), g6], [], σ))) rfl ?_
    refine run_ite hf (fun _ hf => ?_) (fun _ hf => ?_)
    · exact run_ret hf rfl
    · refine run_seg (k := 3) (s' := (36, [some (vR 87), some (vI l1), some (vI l2), some (vL l3), none, some (vI l5), g6], [vI l2, vR 89], σ)) rfl ?_
      refine run_guard (s' := (37, [some (vR 87), some (vI l1), some (vI l2), some (vL l3), none, some (vI l5), g6], [vI (σ 89 l2.toNat)], σ)) hf rfl (fun hf => ?_)
      refine run_seg (k := 3) (s' := (42, [some (vR 87), some (vI l1), some (vI l2), some (vL l3), none, some (vI l5), some (vI (w32 ((σ 89 l2.toNat) + l5)))], [], σ)) rfl ?_
      refine run_let (fun x3 => (42, [some (vR 87), some (vI l1), some (vI l2), some (vL l3), none, some (vI l5), some (vI x3)], [], σ)) hf (fun x3 hf => ?_)
      refine run_seg (k := 2) (s' := (45, [some (vR 87), some (vI l1), some (vI l2), some (vL l3), none, some (vI l5), some (vI x3)], [vI 7, vI l1], σ)) rfl ?_
      refine run_callN (w := fun a => some (vI a)) (m := 207) (as := [vI l1, vI 7]) (pc := 48) (ls := [some (vR 87), some (vI l1), some (vI l2), some (vL l3), none, some (vI l5), some (vI x3)]) (st' := []) (σ := σ) hf rfl (fun _ h => (c_X_isWithin h).mono (by decide)) (fun r4 hf => ?_)
      refine run_seg (k := 1) (s' := (if r4 = 0 then (89, [some (vR 87), some (vI l1), some (vI l2), some (vL l3), none, some (vI l5), some (vI x3)], [], σ) else (51, [some (vR 87), some (vI l1), some (vI l2), some (vL l3), none, some (vI l5), some (vI x3)], [], σ))) rfl ?_
      refine run_ite hf (fun _ hf => ?_) (fun _ hf => ?_)
      · refine run_seg (k := 3) (s' := (92, [some (vR 87), some (vI l1), some (vI l2), some (vL (w64 (-l3))), none, some (vI l5), some (vI x3)], [], σ)) rfl ?_
        refine run_let (fun x5 => (92, [some (vR 87), some (vI l1), some (vI l2), some (vL x5), none, some (vI l5), some (vI x3)], [], σ)) hf (fun x5 hf => ?_)
        refine run_seg (k := 1) (s' := (95, [some (vR 87), some (vI l1), some (vI l2), some (vL x5), none, some (vI (w32 (l5 + 1))), some (vI x3)], [], σ)) rfl ?_
        refine run_let (fun x6 => (95, [some (vR 87), some (vI l1), some (vI l2), some (vL x5), none, some (vI x6), some (vI x3)], [], σ)) hf (fun x6 hf => ?_)
        refine run_seg (k := 1) (s' := (20, [some (vR 87), some (vI l1), some (vI l2), some (vL x5), none, some (vI x6), some (vI x3)], [], σ)) rfl ?_
        exact ih hf
      · refine run_seg (k := 2) (s' := (55, [some (vR 87), some (vI l1), some (vI l2), some (vL l3), none, some (vI l5), some (vI x3)], [vI 7, vI x3], σ)) rfl ?_
        refine run_callN (w := fun a => some (vI a)) (m := 207) (as := [vI x3, vI 7]) (pc := 58) (ls := [some (vR 87), some (vI l1), some (vI l2), some (vL l3), none, some (vI l5), some (vI x3)]) (st' := []) (σ := σ) hf rfl (fun _ h => (c_X_isWithin h).mono (by decide)) (fun r7 hf => ?_)
        refine run_seg (k := 1) (s' := (if r7 = 0 then (89, [some (vR 87), some (vI l1), some (vI l2), some (vL l3), none, some (vI l5), some (vI x3)], [], σ) else (61, [some (vR 87), some (vI l1), some (vI l2), some (vL l3), none, some (vI l5), some (vI x3)], [], σ))) rfl ?_
        refine run_ite hf (fun _ hf => ?_) (fun _ hf => ?_)
        · refine run_seg (k := 3) (s' := (92, [some (vR 87), some (vI l1), some (vI l2), some (vL (w64 (-l3))), none, some (vI l5), some (vI x3)], [], σ)) rfl ?_
          refine run_let (fun x8 => (92, [some (vR 87), some (vI l1), some (vI l2), some (vL x8), none, some (vI l5), some (vI x3)], [], σ)) hf (fun x8 hf => ?_)
          refine run_seg (k := 1) (s' := (95, [some (vR 87), some (vI l1), some (vI l2), some (vL x8), none, some (vI (w32 (l5 + 1))), some (vI x3)], [], σ)) rfl ?_
          refine run_let (fun x9 => (95, [some (vR 87), some (vI l1), some (vI l2), some (vL x8), none, some (vI x9), some (vI x3)], [], σ)) hf (fun x9 hf => ?_)
          refine run_seg (k := 1) (s' := (20, [some (vR 87), some (vI l1), some (vI l2), some (vL x8), none, some (vI x9), some (vI x3)], [], σ)) rfl ?_
          exact ih hf
        · refine run_seg (k := 8) (s' := (73, [some (vR 87), some (vI l1), some (vI l2), some (vL l3), none, some (vI l5), some (vI x3)], [vI (w32 ((w32 (l1 * 7)) + x3)), vR 92, vI (w32 ((w32 (l1 * 7)) + x3)), vR 92], σ)) rfl ?_
          refine run_guard (s' := (74, [some (vR 87), some (vI l1), some (vI l2), some (vL l3), none, some (vI l5), some (vI x3)], [vL (σ 92 (w32 ((w32 (l1 * 7)) + x3)).toNat), vI (w32 ((w32 (l1 * 7)) + x3)), vR 92], σ)) hf rfl (fun hf => ?_)
          refine run_seg (k := 4) (s' := (80, [some (vR 87), some (vI l1), some (vI l2), some (vL l3), none, some (vI l5), some (vI x3)], [vI l2, vR 90, vL l3, vL (σ 92 (w32 ((w32 (l1 * 7)) + x3)).toNat), vI (w32 ((w32 (l1 * 7)) + x3)), vR 92], σ)) rfl ?_
          refine run_guard (s' := (81, [some (vR 87), some (vI l1), some (vI l2), some (vL l3), none, some (vI l5), some (vI x3)], [vI (σ 90 l2.toNat), vL l3, vL (σ 92 (w32 ((w32 (l1 * 7)) + x3)).toNat), vI (w32 ((w32 (l1 * 7)) + x3)), vR 92], σ)) hf rfl (fun hf => ?_)
          refine run_seg (k := 1) (s' := (83, [some (vR 87), some (vI l1), some (vI l2), some (vL l3), none, some (vI l5), some (vI x3)], [vI l5, vI (σ 90 l2.toNat), vL l3, vL (σ 92 (w32 ((w32 (l1 * 7)) + x3)).toNat), vI (w32 ((w32 (l1 * 7)) + x3)), vR 92], σ)) rfl ?_
          refine run_callN (w := fun a => some (vL a)) (m := 32) (as := [vI (σ 90 l2.toNat), vI l5]) (pc := 86) (ls := [some (vR 87), some (vI l1), some (vI l2), some (vL l3), none, some (vI l5), some (vI x3)]) (st' := [vL l3, vL (σ 92 (w32 ((w32 (l1 * 7)) + x3)).toNat), vI (w32 ((w32 (l1 * 7)) + x3)), vR 92]) (σ := σ) hf rfl (fun _ h => (c_Fraction_choices h).mono (by decide)) (fun r10 hf => ?_)
          refine run_seg (k := 2) (s' := (88, [some (vR 87), some (vI l1), some (vI l2), some (vL l3), none, some (vI l5), some (vI x3)], [vL (w64 ((σ 92 (w32 ((w32 (l1 * 7)) + x3)).toNat) + (w64 (l3 * r10)))), vI (w32 ((w32 (l1 * 7)) + x3)), vR 92], σ)) rfl ?_
          refine run_guard (s' := (89, [some (vR 87), some (vI l1), some (vI l2), some (vL l3), none, some (vI l5), some (vI x3)], [], upS σ 92 (w32 ((w32 (l1 * 7)) + x3)).toNat (w64 ((σ 92 (w32 ((w32 (l1 * 7)) + x3)).toNat) + (w64 (l3 * r10)))))) hf rfl (fun hf => ?_)
          refine run_let (fun σ11 => (89, [some (vR 87), some (vI l1), some (vI l2), some (vL l3), none, some (vI l5), some (vI x3)], [], σ11)) hf (fun σ11 hf => ?_)
          refine run_seg (k := 3) (s' := (92, [some (vR 87), some (vI l1), some (vI l2), some (vL (w64 (-l3))), none, some (vI l5), some (vI x3)], [], σ11)) rfl ?_
          refine run_let (fun x12 => (92, [some (vR 87), some (vI l1), some (vI l2), some (vL x12), none, some (vI l5), some (vI x3)], [], σ11)) hf (fun x12 hf => ?_)
          refine run_seg (k := 1) (s' := (95, [some (vR 87), some (vI l1), some (vI l2), some (vL x12), none, some (vI (w32 (l5 + 1))), some (vI x3)], [], σ11)) rfl ?_
          refine run_let (fun x13 => (95, [some (vR 87), some (vI l1), some (vI l2), some (vL x12), none, some (vI x13), some (vI x3)], [], σ11)) hf (fun x13 hf => ?_)
          refine run_seg (k := 1) (s' := (20, [some (vR 87), some (vI l1), some (vI l2), some (vL x12), none, some (vI x13), some (vI x3)], [], σ11)) rfl ?_
          exact ih hf
theorem c_Odds_addPowers {p1 : Int} {p2 : Int} {σ : xSt} {r : xSt} (hf : f_Odds_addPowers p1 p2 σ = some r) : Call (1 + 1) 50 [vR 87, vI p1, vI p2] σ (tV r).1 (tV r).2 := by
  unfold f_Odds_addPowers at hf
  refine call_of (own := 4) (rk := 0) (cd := kX4_addPowers) (ls := [some (vR 87), some (vI p1), some (vI p2), none, none, none, none]) (rT := tV) rfl rfl rfl rfl rfl ?_
  refine run_seg (k := 2) (s' := (3, [some (vR 87), some (vI p1), some (vI p2), none, none, none, none], [vI 80, vI p2], σ)) rfl ?_
  refine run_callN (w := fun a => some (vI a)) (m := 207) (as := [vI p2, vI 80]) (pc := 6) (ls := [some (vR 87), some (vI p1), some (vI p2), none, none, none, none]) (st' := []) (σ := σ) hf rfl (fun _ h => (c_X_isWithin h).mono (by decide)) (fun r1 hf => ?_)
  refine run_seg (k := 1) (s' := (if r1 = 0 then (9, [some (vR 87), some (vI p1), some (vI p2), none, none, none, none], [], σ) else (10, [some (vR 87), some (vI p1), some (vI p2), none, none, none, none], [], σ))) rfl ?_
  refine run_ite hf (fun _ hf => ?_) (fun _ hf => ?_)
  · exact run_ret hf rfl
  · refine run_seg (k := 3) (s' := (15, [some (vR 87), some (vI p1), some (vI p2), none, none, none, none], [vI p2, vR 88], σ)) rfl ?_
    refine run_guard (s' := (16, [some (vR 87), some (vI p1), some (vI p2), none, none, none, none], [vL (σ 88 p2.toNat)], σ)) hf rfl (fun hf => ?_)
    refine run_seg (k := 1) (s' := (17, [some (vR 87), some (vI p1), some (vI p2), some (vL (σ 88 p2.toNat)), none, none, none], [], σ)) rfl ?_
    refine run_let (fun x2 => (17, [some (vR 87), some (vI p1), some (vI p2), some (vL x2), none, none, none], [], σ)) hf (fun x2 hf => ?_)
    refine run_seg (k := 2) (s' := (20, [some (vR 87), some (vI p1), some (vI p2), some (vL x2), none, some (vI 0), none], [], σ)) rfl ?_
    exact r_Odds_addPowers_20 1000000 hf
def f_Odds_tellPolynomials_35 : Nat → Int → xSt → Option (xSt)
  | 0, _, _ => none
  | n + 1, l3, σ =>
    if l3 < σ 16 0 then (xbR (f_Way_sortAt l3 σ) fun r4 =>
    if r4 = 1 then (xbR (f_Odds_addPowers 6 l3 σ) fun σ5 =>
    xlet (w32 (l3 + 1)) fun x6 =>
    f_Odds_tellPolynomials_35 n x6 σ5)
    else (xbR (f_Way_sortAt l3 σ) fun r7 =>
    if r7 = 0 then (xbR (f_Way_whichAt l3 σ) fun r8 =>
    xbR (f_Odds_addPowers r8 l3 σ) fun σ9 =>
    xlet (w32 (l3 + 1)) fun x10 =>
    f_Odds_tellPolynomials_35 n x10 σ9)
    else (xlet (w32 (l3 + 1)) fun x11 =>
    f_Odds_tellPolynomials_35 n x11 σ)))
    else (some σ)
def f_Odds_tellPolynomials_11 : Nat → Int → xSt → Option (xSt)
  | 0, _, _ => none
  | n + 1, l3, σ =>
    if l3 < 49 then (if 0 ≤ l3 ∧ l3 < 49 then (
    xlet (upS σ 92 l3.toNat 0) fun σ2 =>
    xlet (w32 (l3 + 1)) fun x3 =>
    f_Odds_tellPolynomials_11 n x3 σ2) else none)
    else (f_Odds_tellPolynomials_35 1000000 0 σ)
/-- BentPenny$Odds.tellPolynomials(LBentPenny$Table;LBentPenny$Way;)V -/
def f_Odds_tellPolynomials (σ : xSt) : Option (xSt) :=
  xbR (f_Odds_spread 1 1 1 σ) fun σ1 =>
  f_Odds_tellPolynomials_11 1000000 0 σ1
theorem r_Odds_tellPolynomials_35 : ∀ (n : Nat) {l3 : Int} {g1 : Option xV} {σ : xSt} {r : xSt}, f_Odds_tellPolynomials_35 n l3 σ = some r → Run 5 4 0 kX4_tellPolynomials (35, [some (vR 87), g1, some (vR 16), some (vI l3)], [], σ) (tV r) := by
  intro n
  induction n with
  | zero =>
    intro _ _ _ _ h
    exact nomatch (show (none : Option (xSt)) = some _ from h)
  | succ n ih =>
    intro l3 g1 σ r hf
    unfold f_Odds_tellPolynomials_35 at hf
    refine run_seg (k := 4) (s' := (if l3 < σ 16 0 then (43, [some (vR 87), g1, some (vR 16), some (vI l3)], [], σ) else (86, [some (vR 87), g1, some (vR 16), some (vI l3)], [], σ))) rfl ?_
    refine run_ite hf (fun _ hf => ?_) (fun _ hf => ?_)
    · refine run_seg (k := 2) (s' := (45, [some (vR 87), g1, some (vR 16), some (vI l3)], [vI l3, vR 16], σ)) rfl ?_
      refine run_callN (w := fun a => some (vI a)) (m := 131) (as := [vR 16, vI l3]) (pc := 48) (ls := [some (vR 87), g1, some (vR 16), some (vI l3)]) (st' := []) (σ := σ) hf rfl (fun _ h => (c_Way_sortAt h).mono (by decide)) (fun r4 hf => ?_)
      refine run_seg (k := 2) (s' := (if r4 = 1 then (52, [some (vR 87), g1, some (vR 16), some (vI l3)], [], σ) else (62, [some (vR 87), g1, some (vR 16), some (vI l3)], [], σ))) rfl ?_
      refine run_ite hf (fun _ hf => ?_) (fun _ hf => ?_)
      · refine run_seg (k := 3) (s' := (56, [some (vR 87), g1, some (vR 16), some (vI l3)], [vI l3, vI 6, vR 87], σ)) rfl ?_
        refine run_callV (m := 50) (as := [vR 87, vI 6, vI l3]) (pc := 59) (ls := [some (vR 87), g1, some (vR 16), some (vI l3)]) (st' := []) (σ := σ) hf rfl (fun _ h => (c_Odds_addPowers h).mono (by decide)) (fun σ5 hf => ?_)
        refine run_seg (k := 2) (s' := (83, [some (vR 87), g1, some (vR 16), some (vI (w32 (l3 + 1)))], [], σ5)) rfl ?_
        refine run_let (fun x6 => (83, [some (vR 87), g1, some (vR 16), some (vI x6)], [], σ5)) hf (fun x6 hf => ?_)
        refine run_seg (k := 1) (s' := (35, [some (vR 87), g1, some (vR 16), some (vI x6)], [], σ5)) rfl ?_
        exact ih hf
      · refine run_seg (k := 2) (s' := (64, [some (vR 87), g1, some (vR 16), some (vI l3)], [vI l3, vR 16], σ)) rfl ?_
        refine run_callN (w := fun a => some (vI a)) (m := 131) (as := [vR 16, vI l3]) (pc := 67) (ls := [some (vR 87), g1, some (vR 16), some (vI l3)]) (st' := []) (σ := σ) hf rfl (fun _ h => (c_Way_sortAt h).mono (by decide)) (fun r7 hf => ?_)
        refine run_seg (k := 1) (s' := (if r7 = 0 then (70, [some (vR 87), g1, some (vR 16), some (vI l3)], [], σ) else (80, [some (vR 87), g1, some (vR 16), some (vI l3)], [], σ))) rfl ?_
        refine run_ite hf (fun _ hf => ?_) (fun _ hf => ?_)
        · refine run_seg (k := 3) (s' := (73, [some (vR 87), g1, some (vR 16), some (vI l3)], [vI l3, vR 16, vR 87], σ)) rfl ?_
          refine run_callN (w := fun a => some (vI a)) (m := 132) (as := [vR 16, vI l3]) (pc := 76) (ls := [some (vR 87), g1, some (vR 16), some (vI l3)]) (st' := [vR 87]) (σ := σ) hf rfl (fun _ h => (c_Way_whichAt h).mono (by decide)) (fun r8 hf => ?_)
          refine run_seg (k := 1) (s' := (77, [some (vR 87), g1, some (vR 16), some (vI l3)], [vI l3, vI r8, vR 87], σ)) rfl ?_
          refine run_callV (m := 50) (as := [vR 87, vI r8, vI l3]) (pc := 80) (ls := [some (vR 87), g1, some (vR 16), some (vI l3)]) (st' := []) (σ := σ) hf rfl (fun _ h => (c_Odds_addPowers h).mono (by decide)) (fun σ9 hf => ?_)
          refine run_seg (k := 1) (s' := (83, [some (vR 87), g1, some (vR 16), some (vI (w32 (l3 + 1)))], [], σ9)) rfl ?_
          refine run_let (fun x10 => (83, [some (vR 87), g1, some (vR 16), some (vI x10)], [], σ9)) hf (fun x10 hf => ?_)
          refine run_seg (k := 1) (s' := (35, [some (vR 87), g1, some (vR 16), some (vI x10)], [], σ9)) rfl ?_
          exact ih hf
        · refine run_seg (k := 1) (s' := (83, [some (vR 87), g1, some (vR 16), some (vI (w32 (l3 + 1)))], [], σ)) rfl ?_
          refine run_let (fun x11 => (83, [some (vR 87), g1, some (vR 16), some (vI x11)], [], σ)) hf (fun x11 hf => ?_)
          refine run_seg (k := 1) (s' := (35, [some (vR 87), g1, some (vR 16), some (vI x11)], [], σ)) rfl ?_
          exact ih hf
    · exact run_ret hf rfl
theorem r_Odds_tellPolynomials_11 : ∀ (n : Nat) {l3 : Int} {g1 : Option xV} {σ : xSt} {r : xSt}, f_Odds_tellPolynomials_11 n l3 σ = some r → Run 5 4 0 kX4_tellPolynomials (11, [some (vR 87), g1, some (vR 16), some (vI l3)], [], σ) (tV r) := by
  intro n
  induction n with
  | zero =>
    intro _ _ _ _ h
    exact nomatch (show (none : Option (xSt)) = some _ from h)
  | succ n ih =>
    intro l3 g1 σ r hf
    unfold f_Odds_tellPolynomials_11 at hf
    refine run_seg (k := 5) (s' := (if l3 < 49 then (20, [some (vR 87), g1, some (vR 16), some (vI l3)], [], σ) else (33, [some (vR 87), g1, some (vR 16), some (vI l3)], [], σ))) rfl ?_
    refine run_ite hf (fun _ hf => ?_) (fun _ hf => ?_)
    · refine run_seg (k := 4) (s' := (26, [some (vR 87), g1, some (vR 16), some (vI l3)], [vL 0, vI l3, vR 92], σ)) rfl ?_
      refine run_guard (s' := (27, [some (vR 87), g1, some (vR 16), some (vI l3)], [], upS σ 92 l3.toNat 0)) hf rfl (fun hf => ?_)
      refine run_let (fun σ2 => (27, [some (vR 87), g1, some (vR 16), some (vI l3)], [], σ2)) hf (fun σ2 hf => ?_)
      refine run_seg (k := 1) (s' := (30, [some (vR 87), g1, some (vR 16), some (vI (w32 (l3 + 1)))], [], σ2)) rfl ?_
      refine run_let (fun x3 => (30, [some (vR 87), g1, some (vR 16), some (vI x3)], [], σ2)) hf (fun x3 hf => ?_)
      refine run_seg (k := 1) (s' := (11, [some (vR 87), g1, some (vR 16), some (vI x3)], [], σ2)) rfl ?_
      exact ih hf
    · refine run_seg (k := 2) (s' := (35, [some (vR 87), g1, some (vR 16), some (vI 0)], [], σ)) rfl ?_
      exact r_Odds_tellPolynomials_35 1000000 hf
theorem c_Odds_tellPolynomials {σ : xSt} {r : xSt} (hf : f_Odds_tellPolynomials σ = some r) : Call (5 + 1) 49 [vR 87, vR 7, vR 16] σ (tV r).1 (tV r).2 := by
  unfold f_Odds_tellPolynomials at hf
  refine call_of (own := 4) (rk := 0) (cd := kX4_tellPolynomials) (ls := [some (vR 87), some (vR 7), some (vR 16), none]) (rT := tV) rfl rfl rfl rfl rfl ?_
  refine run_seg (k := 6) (s' := (6, [some (vR 87), some (vR 7), some (vR 16), none], [vI 1, vI 1, vI 1, vR 16, vR 7, vR 87], σ)) rfl ?_
  refine run_callV (m := 43) (as := [vR 87, vR 7, vR 16, vI 1, vI 1, vI 1]) (pc := 9) (ls := [some (vR 87), some (vR 7), some (vR 16), none]) (st' := []) (σ := σ) hf rfl (fun _ h => (c_Odds_spread h).mono (by decide)) (fun σ1 hf => ?_)
  refine run_seg (k := 2) (s' := (11, [some (vR 87), some (vR 7), some (vR 16), some (vI 0)], [], σ1)) rfl ?_
  exact r_Odds_tellPolynomials_11 1000000 hf
/-- BentPenny$Odds.powerOf(II)J -/
def f_Odds_powerOf (p1 : Int) (p2 : Int) (σ : xSt) : Option (Int) :=
  xbR (f_X_isWithin p1 7 σ) fun r1 =>
  if r1 = 0 then (some 0)
  else (xbR (f_X_isWithin p2 7 σ) fun r2 =>
  if r2 = 0 then (some 0)
  else (if 0 ≤ w32 ((w32 (p1 * 7)) + p2) ∧ w32 ((w32 (p1 * 7)) + p2) < 49 then (
  some (σ 92 (w32 ((w32 (p1 * 7)) + p2)).toNat)) else none))
theorem c_Odds_powerOf {p1 : Int} {p2 : Int} {σ : xSt} {r : Int} (hf : f_Odds_powerOf p1 p2 σ = some r) : Call (1 + 1) 51 [vR 87, vI p1, vI p2] σ ((tL σ) r).1 ((tL σ) r).2 := by
  unfold f_Odds_powerOf at hf
  refine call_of (own := 4) (rk := 3) (cd := kX4_powerOf) (ls := [some (vR 87), some (vI p1), some (vI p2)]) (rT := (tL σ)) rfl rfl rfl rfl rfl ?_
  refine run_seg (k := 2) (s' := (3, [some (vR 87), some (vI p1), some (vI p2)], [vI 7, vI p1], σ)) rfl ?_
  refine run_callN (w := fun a => some (vI a)) (m := 207) (as := [vI p1, vI 7]) (pc := 6) (ls := [some (vR 87), some (vI p1), some (vI p2)]) (st' := []) (σ := σ) hf rfl (fun _ h => (c_X_isWithin h).mono (by decide)) (fun r1 hf => ?_)
  refine run_seg (k := 1) (s' := (if r1 = 0 then (32, [some (vR 87), some (vI p1), some (vI p2)], [], σ) else (9, [some (vR 87), some (vI p1), some (vI p2)], [], σ))) rfl ?_
  refine run_ite hf (fun _ hf => ?_) (fun _ hf => ?_)
  · refine run_seg (k := 1) (s' := (33, [some (vR 87), some (vI p1), some (vI p2)], [vL 0], σ)) rfl ?_
    exact run_ret hf rfl
  · refine run_seg (k := 2) (s' := (12, [some (vR 87), some (vI p1), some (vI p2)], [vI 7, vI p2], σ)) rfl ?_
    refine run_callN (w := fun a => some (vI a)) (m := 207) (as := [vI p2, vI 7]) (pc := 15) (ls := [some (vR 87), some (vI p1), some (vI p2)]) (st' := []) (σ := σ) hf rfl (fun _ h => (c_X_isWithin h).mono (by decide)) (fun r2 hf => ?_)
    refine run_seg (k := 1) (s' := (if r2 = 0 then (32, [some (vR 87), some (vI p1), some (vI p2)], [], σ) else (18, [some (vR 87), some (vI p1), some (vI p2)], [], σ))) rfl ?_
    refine run_ite hf (fun _ hf => ?_) (fun _ hf => ?_)
    · refine run_seg (k := 1) (s' := (33, [some (vR 87), some (vI p1), some (vI p2)], [vL 0], σ)) rfl ?_
      exact run_ret hf rfl
    · refine run_seg (k := 7) (s' := (28, [some (vR 87), some (vI p1), some (vI p2)], [vI (w32 ((w32 (p1 * 7)) + p2)), vR 92], σ)) rfl ?_
      refine run_guard (s' := (29, [some (vR 87), some (vI p1), some (vI p2)], [vL (σ 92 (w32 ((w32 (p1 * 7)) + p2)).toNat)], σ)) hf rfl (fun hf => ?_)
      refine run_seg (k := 1) (s' := (33, [some (vR 87), some (vI p1), some (vI p2)], [vL (σ 92 (w32 ((w32 (p1 * 7)) + p2)).toNat)], σ)) rfl ?_
      exact run_ret hf rfl
def f_X_poly_106 (l2 : Int) (l3 : Int) (s0 : Int) (σ : xSt) : Option (Option Int × xSt) :=
  xbR (f_Odds_powerOf s0 l2 σ) fun r6 =>
  xbW (f_X_told r6 (σ 87 7) l3 σ) fun r7 σ8 =>
  some (some r7, σ8)
def f_X_poly_24 (l1 : Int) (l2 : Int) (l3 : Int) (s0 : Int) (σ : xSt) : Option (Option Int × xSt) :=
  if s0 = 0 then (some (none, σ))
  else (xbR (f_X_isWithin l2 7 σ) fun r2 =>
  if r2 = 0 then (some (none, σ))
  else (xbR (f_X_isWithin l3 2 σ) fun r3 =>
  if r3 = 0 then (some (none, σ))
  else (xbR (f_Way_isTold σ) fun r4 =>
  if r4 = 0 then (some (none, σ))
  else (xbR (f_Odds_tellPolynomials σ) fun σ5 =>
  if l1 = (-1) then (f_X_poly_106 l2 l3 6 σ5)
  else (f_X_poly_106 l2 l3 l1 σ5)))))
def f_X_poly_19 (l1 : Int) (l2 : Int) (l3 : Int) (σ : xSt) : Option (Option Int × xSt) :=
  f_X_poly_24 l1 l2 l3 1 σ
/-- BentPenny.poly(III)J -/
def f_X_poly (p1 : Int) (p2 : Int) (p3 : Int) (σ : xSt) : Option (Option Int × xSt) :=
  if p1 = (-1) then (f_X_poly_19 p1 p2 p3 σ)
  else (xbR (f_Table_hasEnd p1 σ) fun r1 =>
  if r1 = 0 then (f_X_poly_24 p1 p2 p3 0 σ)
  else (f_X_poly_19 p1 p2 p3 σ))
theorem r_X_poly_106 {l2 : Int} {l3 : Int} {s0 : Int} {g1 : Option xV} {g4 : Option xV} {σ : xSt} {r : Option Int × xSt} (hf : f_X_poly_106 l2 l3 s0 σ = some r) : Run 6 11 3 kX11_poly (106, [some (vR 0), g1, some (vI l2), some (vI l3), g4], [vI s0, vR 87, vR 0], σ) (tXL r) := by
  unfold f_X_poly_106 at hf
  refine run_seg (k := 1) (s' := (107, [some (vR 0), g1, some (vI l2), some (vI l3), g4], [vI l2, vI s0, vR 87, vR 0], σ)) rfl ?_
  refine run_callN (w := fun a => some (vL a)) (m := 51) (as := [vR 87, vI s0, vI l2]) (pc := 110) (ls := [some (vR 0), g1, some (vI l2), some (vI l3), g4]) (st' := [vR 0]) (σ := σ) hf rfl (fun _ h => (c_Odds_powerOf h).mono (by decide)) (fun r6 hf => ?_)
  refine run_seg (k := 4) (s' := (118, [some (vR 0), g1, some (vI l2), some (vI l3), g4], [vI l3, vL (σ 87 7), vL r6, vR 0], σ)) rfl ?_
  refine run_callW (w := fun a => some (vL a)) (m := 167) (as := [vR 0, vL r6, vL (σ 87 7), vI l3]) (pc := 121) (ls := [some (vR 0), g1, some (vI l2), some (vI l3), g4]) (st' := []) (σ := σ) hf rfl (fun _ _ h => (c_X_told h).mono (by decide)) (fun r7 σ8 hf => ?_)
  exact run_ret hf rfl
theorem r_X_poly_24 {l1 : Int} {l2 : Int} {l3 : Int} {s0 : Int} {g4 : Option xV} {σ : xSt} {r : Option Int × xSt} (hf : f_X_poly_24 l1 l2 l3 s0 σ = some r) : Run 6 11 3 kX11_poly (24, [some (vR 0), some (vI l1), some (vI l2), some (vI l3), g4], [vI s0], σ) (tXL r) := by
  unfold f_X_poly_24 at hf
  refine run_seg (k := 3) (s' := (if s0 = 0 then (61, [some (vR 0), some (vI l1), some (vI l2), some (vI l3), some (vI s0)], [], σ) else (31, [some (vR 0), some (vI l1), some (vI l2), some (vI l3), some (vI s0)], [], σ))) rfl ?_
  refine run_ite hf (fun _ hf => ?_) (fun _ hf => ?_)
  · exact run_ret hf rfl
  · refine run_seg (k := 2) (s' := (34, [some (vR 0), some (vI l1), some (vI l2), some (vI l3), some (vI s0)], [vI 7, vI l2], σ)) rfl ?_
    refine run_callN (w := fun a => some (vI a)) (m := 207) (as := [vI l2, vI 7]) (pc := 37) (ls := [some (vR 0), some (vI l1), some (vI l2), some (vI l3), some (vI s0)]) (st' := []) (σ := σ) hf rfl (fun _ h => (c_X_isWithin h).mono (by decide)) (fun r2 hf => ?_)
    refine run_seg (k := 1) (s' := (if r2 = 0 then (61, [some (vR 0), some (vI l1), some (vI l2), some (vI l3), some (vI s0)], [], σ) else (40, [some (vR 0), some (vI l1), some (vI l2), some (vI l3), some (vI s0)], [], σ))) rfl ?_
    refine run_ite hf (fun _ hf => ?_) (fun _ hf => ?_)
    · exact run_ret hf rfl
    · refine run_seg (k := 2) (s' := (42, [some (vR 0), some (vI l1), some (vI l2), some (vI l3), some (vI s0)], [vI 2, vI l3], σ)) rfl ?_
      refine run_callN (w := fun a => some (vI a)) (m := 207) (as := [vI l3, vI 2]) (pc := 45) (ls := [some (vR 0), some (vI l1), some (vI l2), some (vI l3), some (vI s0)]) (st' := []) (σ := σ) hf rfl (fun _ h => (c_X_isWithin h).mono (by decide)) (fun r3 hf => ?_)
      refine run_seg (k := 1) (s' := (if r3 = 0 then (61, [some (vR 0), some (vI l1), some (vI l2), some (vI l3), some (vI s0)], [], σ) else (48, [some (vR 0), some (vI l1), some (vI l2), some (vI l3), some (vI s0)], [], σ))) rfl ?_
      refine run_ite hf (fun _ hf => ?_) (fun _ hf => ?_)
      · exact run_ret hf rfl
      · refine run_seg (k := 3) (s' := (55, [some (vR 0), some (vI l1), some (vI l2), some (vI l3), some (vI s0)], [vR 16], σ)) rfl ?_
        refine run_callN (w := fun a => some (vI a)) (m := 129) (as := [vR 16]) (pc := 58) (ls := [some (vR 0), some (vI l1), some (vI l2), some (vI l3), some (vI s0)]) (st' := []) (σ := σ) hf rfl (fun _ h => (c_Way_isTold h).mono (by decide)) (fun r4 hf => ?_)
        refine run_seg (k := 1) (s' := (if r4 = 0 then (61, [some (vR 0), some (vI l1), some (vI l2), some (vI l3), some (vI s0)], [], σ) else (69, [some (vR 0), some (vI l1), some (vI l2), some (vI l3), some (vI s0)], [], σ))) rfl ?_
        refine run_ite hf (fun _ hf => ?_) (fun _ hf => ?_)
        · exact run_ret hf rfl
        · refine run_seg (k := 8) (s' := (87, [some (vR 0), some (vI l1), some (vI l2), some (vI l3), some (vI s0)], [vR 16, vR 7, vR 87], σ)) rfl ?_
          refine run_callV (m := 49) (as := [vR 87, vR 7, vR 16]) (pc := 90) (ls := [some (vR 0), some (vI l1), some (vI l2), some (vI l3), some (vI s0)]) (st' := []) (σ := σ) hf rfl (fun _ h => (c_Odds_tellPolynomials h).mono (by decide)) (fun σ5 hf => ?_)
          refine run_seg (k := 6) (s' := (if l1 = (-1) then (100, [some (vR 0), some (vI l1), some (vI l2), some (vI l3), some (vI s0)], [vR 87, vR 0], σ5) else (105, [some (vR 0), some (vI l1), some (vI l2), some (vI l3), some (vI s0)], [vR 87, vR 0], σ5))) rfl ?_
          refine run_ite hf (fun _ hf => ?_) (fun _ hf => ?_)
          · refine run_seg (k := 2) (s' := (106, [some (vR 0), some (vI l1), some (vI l2), some (vI l3), some (vI s0)], [vI 6, vR 87, vR 0], σ5)) rfl ?_
            exact r_X_poly_106 hf
          · refine run_seg (k := 1) (s' := (106, [some (vR 0), some (vI l1), some (vI l2), some (vI l3), some (vI s0)], [vI l1, vR 87, vR 0], σ5)) rfl ?_
            exact r_X_poly_106 hf
theorem r_X_poly_19 {l1 : Int} {l2 : Int} {l3 : Int} {g4 : Option xV} {σ : xSt} {r : Option Int × xSt} (hf : f_X_poly_19 l1 l2 l3 σ = some r) : Run 6 11 3 kX11_poly (19, [some (vR 0), some (vI l1), some (vI l2), some (vI l3), g4], [], σ) (tXL r) := by
  unfold f_X_poly_19 at hf
  refine run_seg (k := 2) (s' := (24, [some (vR 0), some (vI l1), some (vI l2), some (vI l3), g4], [vI 1], σ)) rfl ?_
  exact r_X_poly_24 hf
theorem c_X_poly {p1 : Int} {p2 : Int} {p3 : Int} {σ : xSt} {r : Option Int × xSt} (hf : f_X_poly p1 p2 p3 σ = some r) : Call (6 + 1) 169 [vR 0, vI p1, vI p2, vI p3] σ (tXL r).1 (tXL r).2 := by
  unfold f_X_poly at hf
  refine call_of (own := 11) (rk := 3) (cd := kX11_poly) (ls := [some (vR 0), some (vI p1), some (vI p2), some (vI p3), none]) (rT := tXL) rfl rfl rfl rfl rfl ?_
  refine run_seg (k := 3) (s' := (if p1 = (-1) then (19, [some (vR 0), some (vI p1), some (vI p2), some (vI p3), none], [], σ) else (5, [some (vR 0), some (vI p1), some (vI p2), some (vI p3), none], [], σ))) rfl ?_
  refine run_ite hf (fun _ hf => ?_) (fun _ hf => ?_)
  · exact r_X_poly_19 hf
  · refine run_seg (k := 4) (s' := (13, [some (vR 0), some (vI p1), some (vI p2), some (vI p3), none], [vI p1, vR 7], σ)) rfl ?_
    refine run_callN (w := fun a => some (vI a)) (m := 85) (as := [vR 7, vI p1]) (pc := 16) (ls := [some (vR 0), some (vI p1), some (vI p2), some (vI p3), none]) (st' := []) (σ := σ) hf rfl (fun _ h => (c_Table_hasEnd h).mono (by decide)) (fun r1 hf => ?_)
    refine run_seg (k := 1) (s' := (if r1 = 0 then (23, [some (vR 0), some (vI p1), some (vI p2), some (vI p3), none], [], σ) else (19, [some (vR 0), some (vI p1), some (vI p2), some (vI p3), none], [], σ))) rfl ?_
    refine run_ite hf (fun _ hf => ?_) (fun _ hf => ?_)
    · refine run_seg (k := 1) (s' := (24, [some (vR 0), some (vI p1), some (vI p2), some (vI p3), none], [vI 0], σ)) rfl ?_
      exact r_X_poly_24 hf
    · exact r_X_poly_19 hf
def f_Odds_areLike_2 : Nat → Int → Int → Int → xSt → Option (Int)
  | 0, _, _, _, _ => none
  | n + 1, l1, l2, l3, σ =>
    if 6 < l3 then (some 1)
    else (xbR (f_Odds_powerOf l1 l3 σ) fun r1 =>
    xbR (f_Odds_powerOf l2 l3 σ) fun r2 =>
    if xlc r1 r2 = 0 then (xlet (w32 (l3 + 1)) fun x3 =>
    f_Odds_areLike_2 n l1 l2 x3 σ)
    else (some 0))
/-- BentPenny$Odds.areLike(II)Z -/
def f_Odds_areLike (p1 : Int) (p2 : Int) (σ : xSt) : Option (Int) :=
  f_Odds_areLike_2 1000000 p1 p2 0 σ
theorem r_Odds_areLike_2 : ∀ (n : Nat) {l1 : Int} {l2 : Int} {l3 : Int} {σ : xSt} {r : Int}, f_Odds_areLike_2 n l1 l2 l3 σ = some r → Run 2 4 2 kX4_areLike (2, [some (vR 87), some (vI l1), some (vI l2), some (vI l3)], [], σ) ((tI σ) r) := by
  intro n
  induction n with
  | zero =>
    intro _ _ _ _ _ h
    exact nomatch (show (none : Option (Int)) = some _ from h)
  | succ n ih =>
    intro l1 l2 l3 σ r hf
    unfold f_Odds_areLike_2 at hf
    refine run_seg (k := 3) (s' := (if 6 < l3 then (32, [some (vR 87), some (vI l1), some (vI l2), some (vI l3)], [], σ) else (8, [some (vR 87), some (vI l1), some (vI l2), some (vI l3)], [], σ))) rfl ?_
    refine run_ite hf (fun _ hf => ?_) (fun _ hf => ?_)
    · refine run_seg (k := 1) (s' := (33, [some (vR 87), some (vI l1), some (vI l2), some (vI l3)], [vI 1], σ)) rfl ?_
      exact run_ret hf rfl
    · refine run_seg (k := 3) (s' := (11, [some (vR 87), some (vI l1), some (vI l2), some (vI l3)], [vI l3, vI l1, vR 87], σ)) rfl ?_
      refine run_callN (w := fun a => some (vL a)) (m := 51) (as := [vR 87, vI l1, vI l3]) (pc := 14) (ls := [some (vR 87), some (vI l1), some (vI l2), some (vI l3)]) (st' := []) (σ := σ) hf rfl (fun _ h => (c_Odds_powerOf h).mono (by decide)) (fun r1 hf => ?_)
      refine run_seg (k := 3) (s' := (17, [some (vR 87), some (vI l1), some (vI l2), some (vI l3)], [vI l3, vI l2, vR 87, vL r1], σ)) rfl ?_
      refine run_callN (w := fun a => some (vL a)) (m := 51) (as := [vR 87, vI l2, vI l3]) (pc := 20) (ls := [some (vR 87), some (vI l1), some (vI l2), some (vI l3)]) (st' := [vL r1]) (σ := σ) hf rfl (fun _ h => (c_Odds_powerOf h).mono (by decide)) (fun r2 hf => ?_)
      refine run_seg (k := 2) (s' := (if xlc r1 r2 = 0 then (26, [some (vR 87), some (vI l1), some (vI l2), some (vI l3)], [], σ) else (24, [some (vR 87), some (vI l1), some (vI l2), some (vI l3)], [], σ))) rfl ?_
      refine run_ite hf (fun _ hf => ?_) (fun _ hf => ?_)
      · refine run_seg (k := 1) (s' := (29, [some (vR 87), some (vI l1), some (vI l2), some (vI (w32 (l3 + 1)))], [], σ)) rfl ?_
        refine run_let (fun x3 => (29, [some (vR 87), some (vI l1), some (vI l2), some (vI x3)], [], σ)) hf (fun x3 hf => ?_)
        refine run_seg (k := 1) (s' := (2, [some (vR 87), some (vI l1), some (vI l2), some (vI x3)], [], σ)) rfl ?_
        exact ih hf
      · refine run_seg (k := 1) (s' := (25, [some (vR 87), some (vI l1), some (vI l2), some (vI l3)], [vI 0], σ)) rfl ?_
        exact run_ret hf rfl
theorem c_Odds_areLike {p1 : Int} {p2 : Int} {σ : xSt} {r : Int} (hf : f_Odds_areLike p1 p2 σ = some r) : Call (2 + 1) 52 [vR 87, vI p1, vI p2] σ ((tI σ) r).1 ((tI σ) r).2 := by
  unfold f_Odds_areLike at hf
  refine call_of (own := 4) (rk := 2) (cd := kX4_areLike) (ls := [some (vR 87), some (vI p1), some (vI p2), none]) (rT := (tI σ)) rfl rfl rfl rfl rfl ?_
  refine run_seg (k := 2) (s' := (2, [some (vR 87), some (vI p1), some (vI p2), some (vI 0)], [], σ)) rfl ?_
  exact r_Odds_areLike_2 1000000 hf
/-- BentPenny.like(II)I -/
def f_X_like (p1 : Int) (p2 : Int) (σ : xSt) : Option (Int × xSt) :=
  xbR (f_Table_hasEnd p1 σ) fun r1 =>
  if r1 = 0 then (some ((-1), σ))
  else (xbR (f_Table_hasEnd p2 σ) fun r2 =>
  if r2 = 0 then (some ((-1), σ))
  else (xbR (f_Way_isTold σ) fun r3 =>
  if r3 = 0 then (some ((-1), σ))
  else (xbR (f_Odds_tellPolynomials σ) fun σ4 =>
  xbR (f_Odds_areLike p1 p2 σ4) fun r5 =>
  if r5 = 0 then (some (0, σ4))
  else (some (1, σ4)))))
theorem c_X_like {p1 : Int} {p2 : Int} {σ : xSt} {r : Int × xSt} (hf : f_X_like p1 p2 σ = some r) : Call (6 + 1) 170 [vR 0, vI p1, vI p2] σ (tIW r).1 (tIW r).2 := by
  unfold f_X_like at hf
  refine call_of (own := 11) (rk := 1) (cd := kX11_like) (ls := [some (vR 0), some (vI p1), some (vI p2)]) (rT := tIW) rfl rfl rfl rfl rfl ?_
  refine run_seg (k := 4) (s' := (8, [some (vR 0), some (vI p1), some (vI p2)], [vI p1, vR 7], σ)) rfl ?_
  refine run_callN (w := fun a => some (vI a)) (m := 85) (as := [vR 7, vI p1]) (pc := 11) (ls := [some (vR 0), some (vI p1), some (vI p2)]) (st' := []) (σ := σ) hf rfl (fun _ h => (c_Table_hasEnd h).mono (by decide)) (fun r1 hf => ?_)
  refine run_seg (k := 1) (s' := (if r1 = 0 then (41, [some (vR 0), some (vI p1), some (vI p2)], [], σ) else (14, [some (vR 0), some (vI p1), some (vI p2)], [], σ))) rfl ?_
  refine run_ite hf (fun _ hf => ?_) (fun _ hf => ?_)
  · refine run_seg (k := 1) (s' := (42, [some (vR 0), some (vI p1), some (vI p2)], [vI (-1)], σ)) rfl ?_
    exact run_ret hf rfl
  · refine run_seg (k := 4) (s' := (22, [some (vR 0), some (vI p1), some (vI p2)], [vI p2, vR 7], σ)) rfl ?_
    refine run_callN (w := fun a => some (vI a)) (m := 85) (as := [vR 7, vI p2]) (pc := 25) (ls := [some (vR 0), some (vI p1), some (vI p2)]) (st' := []) (σ := σ) hf rfl (fun _ h => (c_Table_hasEnd h).mono (by decide)) (fun r2 hf => ?_)
    refine run_seg (k := 1) (s' := (if r2 = 0 then (41, [some (vR 0), some (vI p1), some (vI p2)], [], σ) else (28, [some (vR 0), some (vI p1), some (vI p2)], [], σ))) rfl ?_
    refine run_ite hf (fun _ hf => ?_) (fun _ hf => ?_)
    · refine run_seg (k := 1) (s' := (42, [some (vR 0), some (vI p1), some (vI p2)], [vI (-1)], σ)) rfl ?_
      exact run_ret hf rfl
    · refine run_seg (k := 3) (s' := (35, [some (vR 0), some (vI p1), some (vI p2)], [vR 16], σ)) rfl ?_
      refine run_callN (w := fun a => some (vI a)) (m := 129) (as := [vR 16]) (pc := 38) (ls := [some (vR 0), some (vI p1), some (vI p2)]) (st' := []) (σ := σ) hf rfl (fun _ h => (c_Way_isTold h).mono (by decide)) (fun r3 hf => ?_)
      refine run_seg (k := 1) (s' := (if r3 = 0 then (41, [some (vR 0), some (vI p1), some (vI p2)], [], σ) else (43, [some (vR 0), some (vI p1), some (vI p2)], [], σ))) rfl ?_
      refine run_ite hf (fun _ hf => ?_) (fun _ hf => ?_)
      · refine run_seg (k := 1) (s' := (42, [some (vR 0), some (vI p1), some (vI p2)], [vI (-1)], σ)) rfl ?_
        exact run_ret hf rfl
      · refine run_seg (k := 8) (s' := (61, [some (vR 0), some (vI p1), some (vI p2)], [vR 16, vR 7, vR 87], σ)) rfl ?_
        refine run_callV (m := 49) (as := [vR 87, vR 7, vR 16]) (pc := 64) (ls := [some (vR 0), some (vI p1), some (vI p2)]) (st' := []) (σ := σ) hf rfl (fun _ h => (c_Odds_tellPolynomials h).mono (by decide)) (fun σ4 hf => ?_)
        refine run_seg (k := 4) (s' := (70, [some (vR 0), some (vI p1), some (vI p2)], [vI p2, vI p1, vR 87], σ4)) rfl ?_
        refine run_callN (w := fun a => some (vI a)) (m := 52) (as := [vR 87, vI p1, vI p2]) (pc := 73) (ls := [some (vR 0), some (vI p1), some (vI p2)]) (st' := []) (σ := σ4) hf rfl (fun _ h => (c_Odds_areLike h).mono (by decide)) (fun r5 hf => ?_)
        refine run_seg (k := 1) (s' := (if r5 = 0 then (80, [some (vR 0), some (vI p1), some (vI p2)], [], σ4) else (76, [some (vR 0), some (vI p1), some (vI p2)], [], σ4))) rfl ?_
        refine run_ite hf (fun _ hf => ?_) (fun _ hf => ?_)
        · refine run_seg (k := 1) (s' := (81, [some (vR 0), some (vI p1), some (vI p2)], [vI 0], σ4)) rfl ?_
          exact run_ret hf rfl
        · refine run_seg (k := 2) (s' := (81, [some (vR 0), some (vI p1), some (vI p2)], [vI 1], σ4)) rfl ?_
          exact run_ret hf rfl
def f_Odds_comes_2 : Nat → Int → Int → xSt → Option (Int)
  | 0, _, _, _ => none
  | n + 1, l1, l2, σ =>
    if 6 < l2 then (some 0)
    else (xbR (f_Odds_powerOf l1 l2 σ) fun r1 =>
    if xlc r1 0 = 0 then (xlet (w32 (l2 + 1)) fun x2 =>
    f_Odds_comes_2 n l1 x2 σ)
    else (some 1))
/-- BentPenny$Odds.comes(I)Z -/
def f_Odds_comes (p1 : Int) (σ : xSt) : Option (Int) :=
  f_Odds_comes_2 1000000 p1 0 σ
theorem r_Odds_comes_2 : ∀ (n : Nat) {l1 : Int} {l2 : Int} {σ : xSt} {r : Int}, f_Odds_comes_2 n l1 l2 σ = some r → Run 2 4 2 kX4_comes (2, [some (vR 87), some (vI l1), some (vI l2)], [], σ) ((tI σ) r) := by
  intro n
  induction n with
  | zero =>
    intro _ _ _ _ h
    exact nomatch (show (none : Option (Int)) = some _ from h)
  | succ n ih =>
    intro l1 l2 σ r hf
    unfold f_Odds_comes_2 at hf
    refine run_seg (k := 3) (s' := (if 6 < l2 then (27, [some (vR 87), some (vI l1), some (vI l2)], [], σ) else (8, [some (vR 87), some (vI l1), some (vI l2)], [], σ))) rfl ?_
    refine run_ite hf (fun _ hf => ?_) (fun _ hf => ?_)
    · refine run_seg (k := 1) (s' := (28, [some (vR 87), some (vI l1), some (vI l2)], [vI 0], σ)) rfl ?_
      exact run_ret hf rfl
    · refine run_seg (k := 3) (s' := (11, [some (vR 87), some (vI l1), some (vI l2)], [vI l2, vI l1, vR 87], σ)) rfl ?_
      refine run_callN (w := fun a => some (vL a)) (m := 51) (as := [vR 87, vI l1, vI l2]) (pc := 14) (ls := [some (vR 87), some (vI l1), some (vI l2)]) (st' := []) (σ := σ) hf rfl (fun _ h => (c_Odds_powerOf h).mono (by decide)) (fun r1 hf => ?_)
      refine run_seg (k := 3) (s' := (if xlc r1 0 = 0 then (21, [some (vR 87), some (vI l1), some (vI l2)], [], σ) else (19, [some (vR 87), some (vI l1), some (vI l2)], [], σ))) rfl ?_
      refine run_ite hf (fun _ hf => ?_) (fun _ hf => ?_)
      · refine run_seg (k := 1) (s' := (24, [some (vR 87), some (vI l1), some (vI (w32 (l2 + 1)))], [], σ)) rfl ?_
        refine run_let (fun x2 => (24, [some (vR 87), some (vI l1), some (vI x2)], [], σ)) hf (fun x2 hf => ?_)
        refine run_seg (k := 1) (s' := (2, [some (vR 87), some (vI l1), some (vI x2)], [], σ)) rfl ?_
        exact ih hf
      · refine run_seg (k := 1) (s' := (20, [some (vR 87), some (vI l1), some (vI l2)], [vI 1], σ)) rfl ?_
        exact run_ret hf rfl
theorem c_Odds_comes {p1 : Int} {σ : xSt} {r : Int} (hf : f_Odds_comes p1 σ = some r) : Call (2 + 1) 53 [vR 87, vI p1] σ ((tI σ) r).1 ((tI σ) r).2 := by
  unfold f_Odds_comes at hf
  refine call_of (own := 4) (rk := 2) (cd := kX4_comes) (ls := [some (vR 87), some (vI p1), none]) (rT := (tI σ)) rfl rfl rfl rfl rfl ?_
  refine run_seg (k := 2) (s' := (2, [some (vR 87), some (vI p1), some (vI 0)], [], σ)) rfl ?_
  exact r_Odds_comes_2 1000000 hf
def f_X_even_51 : Nat → Int → xSt → Option (Int × xSt)
  | 0, _, _ => none
  | n + 1, l1, σ =>
    if l1 < σ 7 2 then (xbR (f_Odds_comes l1 σ) fun r3 =>
    if r3 = 0 then (some (0, σ))
    else (xbR (f_Odds_areLike 0 l1 σ) fun r4 =>
    if r4 = 0 then (some (0, σ))
    else (xlet (w32 (l1 + 1)) fun x5 =>
    f_X_even_51 n x5 σ)))
    else (some (1, σ))
/-- BentPenny.even()I -/
def f_X_even (σ : xSt) : Option (Int × xSt) :=
  xbR (f_Way_isTold σ) fun r1 =>
  if r1 = 0 then (some ((-1), σ))
  else (if σ 7 2 = 0 then (some ((-1), σ))
  else (xbR (f_Odds_tellPolynomials σ) fun σ2 =>
  f_X_even_51 1000000 0 σ2))
theorem r_X_even_51 : ∀ (n : Nat) {l1 : Int} {σ : xSt} {r : Int × xSt}, f_X_even_51 n l1 σ = some r → Run 6 11 1 kX11_even (51, [some (vR 0), some (vI l1)], [], σ) (tIW r) := by
  intro n
  induction n with
  | zero =>
    intro _ _ _ h
    exact nomatch (show (none : Option (Int × xSt)) = some _ from h)
  | succ n ih =>
    intro l1 σ r hf
    unfold f_X_even_51 at hf
    refine run_seg (k := 6) (s' := (if l1 < σ 7 2 then (65, [some (vR 0), some (vI l1)], [], σ) else (96, [some (vR 0), some (vI l1)], [], σ))) rfl ?_
    refine run_ite hf (fun _ hf => ?_) (fun _ hf => ?_)
    · refine run_seg (k := 3) (s' := (70, [some (vR 0), some (vI l1)], [vI l1, vR 87], σ)) rfl ?_
      refine run_callN (w := fun a => some (vI a)) (m := 53) (as := [vR 87, vI l1]) (pc := 73) (ls := [some (vR 0), some (vI l1)]) (st' := []) (σ := σ) hf rfl (fun _ h => (c_Odds_comes h).mono (by decide)) (fun r3 hf => ?_)
      refine run_seg (k := 1) (s' := (if r3 = 0 then (88, [some (vR 0), some (vI l1)], [], σ) else (76, [some (vR 0), some (vI l1)], [], σ))) rfl ?_
      refine run_ite hf (fun _ hf => ?_) (fun _ hf => ?_)
      · refine run_seg (k := 1) (s' := (89, [some (vR 0), some (vI l1)], [vI 0], σ)) rfl ?_
        exact run_ret hf rfl
      · refine run_seg (k := 4) (s' := (82, [some (vR 0), some (vI l1)], [vI l1, vI 0, vR 87], σ)) rfl ?_
        refine run_callN (w := fun a => some (vI a)) (m := 52) (as := [vR 87, vI 0, vI l1]) (pc := 85) (ls := [some (vR 0), some (vI l1)]) (st' := []) (σ := σ) hf rfl (fun _ h => (c_Odds_areLike h).mono (by decide)) (fun r4 hf => ?_)
        refine run_seg (k := 1) (s' := (if r4 = 0 then (88, [some (vR 0), some (vI l1)], [], σ) else (90, [some (vR 0), some (vI l1)], [], σ))) rfl ?_
        refine run_ite hf (fun _ hf => ?_) (fun _ hf => ?_)
        · refine run_seg (k := 1) (s' := (89, [some (vR 0), some (vI l1)], [vI 0], σ)) rfl ?_
          exact run_ret hf rfl
        · refine run_seg (k := 1) (s' := (93, [some (vR 0), some (vI (w32 (l1 + 1)))], [], σ)) rfl ?_
          refine run_let (fun x5 => (93, [some (vR 0), some (vI x5)], [], σ)) hf (fun x5 hf => ?_)
          refine run_seg (k := 1) (s' := (51, [some (vR 0), some (vI x5)], [], σ)) rfl ?_
          exact ih hf
    · refine run_seg (k := 1) (s' := (97, [some (vR 0), some (vI l1)], [vI 1], σ)) rfl ?_
      exact run_ret hf rfl
theorem c_X_even {σ : xSt} {r : Int × xSt} (hf : f_X_even σ = some r) : Call (6 + 1) 171 [vR 0] σ (tIW r).1 (tIW r).2 := by
  unfold f_X_even at hf
  refine call_of (own := 11) (rk := 1) (cd := kX11_even) (ls := [some (vR 0), none]) (rT := tIW) rfl rfl rfl rfl rfl ?_
  refine run_seg (k := 3) (s' := (7, [some (vR 0), none], [vR 16], σ)) rfl ?_
  refine run_callN (w := fun a => some (vI a)) (m := 129) (as := [vR 16]) (pc := 10) (ls := [some (vR 0), none]) (st' := []) (σ := σ) hf rfl (fun _ h => (c_Way_isTold h).mono (by decide)) (fun r1 hf => ?_)
  refine run_seg (k := 1) (s' := (if r1 = 0 then (26, [some (vR 0), none], [], σ) else (13, [some (vR 0), none], [], σ))) rfl ?_
  refine run_ite hf (fun _ hf => ?_) (fun _ hf => ?_)
  · refine run_seg (k := 1) (s' := (27, [some (vR 0), none], [vI (-1)], σ)) rfl ?_
    exact run_ret hf rfl
  · refine run_seg (k := 5) (s' := (if σ 7 2 = 0 then (26, [some (vR 0), none], [], σ) else (28, [some (vR 0), none], [], σ))) rfl ?_
    refine run_ite hf (fun _ hf => ?_) (fun _ hf => ?_)
    · refine run_seg (k := 1) (s' := (27, [some (vR 0), none], [vI (-1)], σ)) rfl ?_
      exact run_ret hf rfl
    · refine run_seg (k := 8) (s' := (46, [some (vR 0), none], [vR 16, vR 7, vR 87], σ)) rfl ?_
      refine run_callV (m := 49) (as := [vR 87, vR 7, vR 16]) (pc := 49) (ls := [some (vR 0), none]) (st' := []) (σ := σ) hf rfl (fun _ h => (c_Odds_tellPolynomials h).mono (by decide)) (fun σ2 hf => ?_)
      refine run_seg (k := 2) (s' := (51, [some (vR 0), some (vI 0)], [], σ2)) rfl ?_
      exact r_X_even_51 1000000 hf
/-- BentPenny$Way.endAt(I)I -/
def f_Way_endAt (p1 : Int) (σ : xSt) : Option (Int) :=
  xbR (f_Way_sortAt p1 σ) fun r1 =>
  if r1 = 0 then (xbR (f_Way_whichAt p1 σ) fun r2 =>
  some r2)
  else (some (-1))
theorem c_Way_endAt {p1 : Int} {σ : xSt} {r : Int} (hf : f_Way_endAt p1 σ = some r) : Call (2 + 1) 137 [vR 16, vI p1] σ ((tI σ) r).1 ((tI σ) r).2 := by
  unfold f_Way_endAt at hf
  refine call_of (own := 10) (rk := 1) (cd := kX10_endAt) (ls := [some (vR 16), some (vI p1)]) (rT := (tI σ)) rfl rfl rfl rfl rfl ?_
  refine run_seg (k := 2) (s' := (2, [some (vR 16), some (vI p1)], [vI p1, vR 16], σ)) rfl ?_
  refine run_callN (w := fun a => some (vI a)) (m := 131) (as := [vR 16, vI p1]) (pc := 5) (ls := [some (vR 16), some (vI p1)]) (st' := []) (σ := σ) hf rfl (fun _ h => (c_Way_sortAt h).mono (by decide)) (fun r1 hf => ?_)
  refine run_seg (k := 1) (s' := (if r1 = 0 then (8, [some (vR 16), some (vI p1)], [], σ) else (16, [some (vR 16), some (vI p1)], [], σ))) rfl ?_
  refine run_ite hf (fun _ hf => ?_) (fun _ hf => ?_)
  · refine run_seg (k := 2) (s' := (10, [some (vR 16), some (vI p1)], [vI p1, vR 16], σ)) rfl ?_
    refine run_callN (w := fun a => some (vI a)) (m := 132) (as := [vR 16, vI p1]) (pc := 13) (ls := [some (vR 16), some (vI p1)]) (st' := []) (σ := σ) hf rfl (fun _ h => (c_Way_whichAt h).mono (by decide)) (fun r2 hf => ?_)
    refine run_seg (k := 1) (s' := (17, [some (vR 16), some (vI p1)], [vI r2], σ)) rfl ?_
    exact run_ret hf rfl
  · refine run_seg (k := 1) (s' := (17, [some (vR 16), some (vI p1)], [vI (-1)], σ)) rfl ?_
    exact run_ret hf rfl
/-- BentPenny$Judge.blame(I)V -/
def f_Judge_blame (p1 : Int) (σ : xSt) : Option (xSt) :=
  xlet (upS σ 96 3 p1) fun σ1 =>
  xlet (upS σ1 96 2 (σ1 96 0)) fun σ2 =>
  some σ2
theorem c_Judge_blame {p1 : Int} {σ : xSt} {r : xSt} (hf : f_Judge_blame p1 σ = some r) : Call (0 + 1) 39 [vR 96, vI p1] σ (tV r).1 (tV r).2 := by
  unfold f_Judge_blame at hf
  refine call_of (own := 3) (rk := 0) (cd := kX3_blame) (ls := [some (vR 96), some (vI p1)]) (rT := tV) rfl rfl rfl rfl rfl ?_
  refine run_seg (k := 3) (s' := (5, [some (vR 96), some (vI p1)], [], upS σ 96 3 p1)) rfl ?_
  refine run_let (fun σ1 => (5, [some (vR 96), some (vI p1)], [], σ1)) hf (fun σ1 hf => ?_)
  refine run_seg (k := 4) (s' := (13, [some (vR 96), some (vI p1)], [], upS σ1 96 2 (σ1 96 0))) rfl ?_
  refine run_let (fun σ2 => (13, [some (vR 96), some (vI p1)], [], σ2)) hf (fun σ2 hf => ?_)
  exact run_ret hf rfl
/-- BentPenny$Way.landing(II)I -/
def f_Way_landing (p1 : Int) (p2 : Int) (σ : xSt) : Option (Int) :=
  xbR (f_Way_nextAt p1 p2 σ) fun r1 =>
  xbR (f_Way_sortAt r1 σ) fun r2 =>
  if r2 = 1 then (some 0)
  else (some r1)
theorem c_Way_landing {p1 : Int} {p2 : Int} {σ : xSt} {r : Int} (hf : f_Way_landing p1 p2 σ = some r) : Call (2 + 1) 136 [vR 16, vI p1, vI p2] σ ((tI σ) r).1 ((tI σ) r).2 := by
  unfold f_Way_landing at hf
  refine call_of (own := 10) (rk := 1) (cd := kX10_landing) (ls := [some (vR 16), some (vI p1), some (vI p2), none]) (rT := (tI σ)) rfl rfl rfl rfl rfl ?_
  refine run_seg (k := 3) (s' := (3, [some (vR 16), some (vI p1), some (vI p2), none], [vI p2, vI p1, vR 16], σ)) rfl ?_
  refine run_callN (w := fun a => some (vI a)) (m := 135) (as := [vR 16, vI p1, vI p2]) (pc := 6) (ls := [some (vR 16), some (vI p1), some (vI p2), none]) (st' := []) (σ := σ) hf rfl (fun _ h => (c_Way_nextAt h).mono (by decide)) (fun r1 hf => ?_)
  refine run_seg (k := 3) (s' := (9, [some (vR 16), some (vI p1), some (vI p2), some (vI r1)], [vI r1, vR 16], σ)) rfl ?_
  refine run_callN (w := fun a => some (vI a)) (m := 131) (as := [vR 16, vI r1]) (pc := 12) (ls := [some (vR 16), some (vI p1), some (vI p2), some (vI r1)]) (st' := []) (σ := σ) hf rfl (fun _ h => (c_Way_sortAt h).mono (by decide)) (fun r2 hf => ?_)
  refine run_seg (k := 2) (s' := (if r2 = 1 then (16, [some (vR 16), some (vI p1), some (vI p2), some (vI r1)], [], σ) else (20, [some (vR 16), some (vI p1), some (vI p2), some (vI r1)], [], σ))) rfl ?_
  refine run_ite hf (fun _ hf => ?_) (fun _ hf => ?_)
  · refine run_seg (k := 2) (s' := (21, [some (vR 16), some (vI p1), some (vI p2), some (vI r1)], [vI 0], σ)) rfl ?_
    exact run_ret hf rfl
  · refine run_seg (k := 1) (s' := (21, [some (vR 16), some (vI p1), some (vI p2), some (vI r1)], [vI r1], σ)) rfl ?_
    exact run_ret hf rfl
def f_Judge_judgeThrow_55 (σ : xSt) : Option (xSt) :=
  xbR (f_Judge_blame 2 σ) fun σ12 =>
  some σ12
def f_Judge_judgeThrow_110 (l2 : Int) (s0 : Int) (s1 : Int) (σ : xSt) : Option (xSt) :=
  xlet (upS σ 96 5 (w32 (s1 + s0))) fun σ9 =>
  xbR (f_Way_landing (σ9 96 1) l2 σ9) fun r10 =>
  xlet (upS σ9 96 1 r10) fun σ11 =>
  some σ11
/-- BentPenny$Judge.judgeThrow(IILBentPenny$Table;LBentPenny$Way;)V -/
def f_Judge_judgeThrow (p1 : Int) (p2 : Int) (σ : xSt) : Option (xSt) :=
  if σ 96 3 = 0 then (xbR (f_Way_endAt (σ 96 1) σ) fun r1 =>
  if r1 = (-1) then (xbR (f_Way_sortAt (σ 96 1) σ) fun r2 =>
  if r2 = 2 then (xbR (f_Way_whichAt (σ 96 1) σ) fun r3 =>
  if r3 = p1 then (xbR (f_Table_sidesOf p1 σ) fun r4 =>
  xbR (f_X_isWithin p2 r4 σ) fun r5 =>
  if r5 = 0 then (xbR (f_Judge_blame 3 σ) fun σ6 =>
  some σ6)
  else (xlet (upS σ 96 4 (w32 ((σ 96 4) + 1))) fun σ7 =>
  if σ7 96 1 = 0 then (f_Judge_judgeThrow_110 p2 1 (σ7 96 5) σ7)
  else (f_Judge_judgeThrow_110 p2 0 (σ7 96 5) σ7)))
  else (f_Judge_judgeThrow_55 σ))
  else (f_Judge_judgeThrow_55 σ))
  else (xbR (f_Judge_blame 1 σ) fun σ8 =>
  some σ8))
  else (some σ)
theorem r_Judge_judgeThrow_55 {g1 : Option xV} {g2 : Option xV} {g3 : Option xV} {g4 : Option xV} {σ : xSt} {r : xSt} (hf : f_Judge_judgeThrow_55 σ = some r) : Run 3 3 0 kX3_judgeThrow (55, [some (vR 96), g1, g2, g3, g4], [], σ) (tV r) := by
  unfold f_Judge_judgeThrow_55 at hf
  refine run_seg (k := 2) (s' := (57, [some (vR 96), g1, g2, g3, g4], [vI 2, vR 96], σ)) rfl ?_
  refine run_callV (m := 39) (as := [vR 96, vI 2]) (pc := 60) (ls := [some (vR 96), g1, g2, g3, g4]) (st' := []) (σ := σ) hf rfl (fun _ h => (c_Judge_blame h).mono (by decide)) (fun σ12 hf => ?_)
  refine run_seg (k := 1) (s' := (128, [some (vR 96), g1, g2, g3, g4], [], σ12)) rfl ?_
  exact run_ret hf rfl
theorem r_Judge_judgeThrow_110 {l2 : Int} {s0 : Int} {s1 : Int} {g1 : Option xV} {g3 : Option xV} {σ : xSt} {r : xSt} (hf : f_Judge_judgeThrow_110 l2 s0 s1 σ = some r) : Run 3 3 0 kX3_judgeThrow (110, [some (vR 96), g1, some (vI l2), g3, some (vR 16)], [vI s0, vI s1, vR 96], σ) (tV r) := by
  unfold f_Judge_judgeThrow_110 at hf
  refine run_seg (k := 2) (s' := (114, [some (vR 96), g1, some (vI l2), g3, some (vR 16)], [], upS σ 96 5 (w32 (s1 + s0)))) rfl ?_
  refine run_let (fun σ9 => (114, [some (vR 96), g1, some (vI l2), g3, some (vR 16)], [], σ9)) hf (fun σ9 hf => ?_)
  refine run_seg (k := 5) (s' := (122, [some (vR 96), g1, some (vI l2), g3, some (vR 16)], [vI l2, vI (σ9 96 1), vR 16, vR 96], σ9)) rfl ?_
  refine run_callN (w := fun a => some (vI a)) (m := 136) (as := [vR 16, vI (σ9 96 1), vI l2]) (pc := 125) (ls := [some (vR 96), g1, some (vI l2), g3, some (vR 16)]) (st' := [vR 96]) (σ := σ9) hf rfl (fun _ h => (c_Way_landing h).mono (by decide)) (fun r10 hf => ?_)
  refine run_seg (k := 1) (s' := (128, [some (vR 96), g1, some (vI l2), g3, some (vR 16)], [], upS σ9 96 1 r10)) rfl ?_
  refine run_let (fun σ11 => (128, [some (vR 96), g1, some (vI l2), g3, some (vR 16)], [], σ11)) hf (fun σ11 hf => ?_)
  exact run_ret hf rfl
theorem c_Judge_judgeThrow {p1 : Int} {p2 : Int} {σ : xSt} {r : xSt} (hf : f_Judge_judgeThrow p1 p2 σ = some r) : Call (3 + 1) 37 [vR 96, vI p1, vI p2, vR 7, vR 16] σ (tV r).1 (tV r).2 := by
  unfold f_Judge_judgeThrow at hf
  refine call_of (own := 3) (rk := 0) (cd := kX3_judgeThrow) (ls := [some (vR 96), some (vI p1), some (vI p2), some (vR 7), some (vR 16)]) (rT := tV) rfl rfl rfl rfl rfl ?_
  refine run_seg (k := 3) (s' := (if σ 96 3 = 0 then (8, [some (vR 96), some (vI p1), some (vI p2), some (vR 7), some (vR 16)], [], σ) else (7, [some (vR 96), some (vI p1), some (vI p2), some (vR 7), some (vR 16)], [], σ))) rfl ?_
  refine run_ite hf (fun _ hf => ?_) (fun _ hf => ?_)
  · refine run_seg (k := 3) (s' := (14, [some (vR 96), some (vI p1), some (vI p2), some (vR 7), some (vR 16)], [vI (σ 96 1), vR 16], σ)) rfl ?_
    refine run_callN (w := fun a => some (vI a)) (m := 137) (as := [vR 16, vI (σ 96 1)]) (pc := 17) (ls := [some (vR 96), some (vI p1), some (vI p2), some (vR 7), some (vR 16)]) (st' := []) (σ := σ) hf rfl (fun _ h => (c_Way_endAt h).mono (by decide)) (fun r1 hf => ?_)
    refine run_seg (k := 2) (s' := (if r1 = (-1) then (29, [some (vR 96), some (vI p1), some (vI p2), some (vR 7), some (vR 16)], [], σ) else (21, [some (vR 96), some (vI p1), some (vI p2), some (vR 7), some (vR 16)], [], σ))) rfl ?_
    refine run_ite hf (fun _ hf => ?_) (fun _ hf => ?_)
    · refine run_seg (k := 3) (s' := (35, [some (vR 96), some (vI p1), some (vI p2), some (vR 7), some (vR 16)], [vI (σ 96 1), vR 16], σ)) rfl ?_
      refine run_callN (w := fun a => some (vI a)) (m := 131) (as := [vR 16, vI (σ 96 1)]) (pc := 38) (ls := [some (vR 96), some (vI p1), some (vI p2), some (vR 7), some (vR 16)]) (st' := []) (σ := σ) hf rfl (fun _ h => (c_Way_sortAt h).mono (by decide)) (fun r2 hf => ?_)
      refine run_seg (k := 2) (s' := (if r2 = 2 then (42, [some (vR 96), some (vI p1), some (vI p2), some (vR 7), some (vR 16)], [], σ) else (55, [some (vR 96), some (vI p1), some (vI p2), some (vR 7), some (vR 16)], [], σ))) rfl ?_
      refine run_ite hf (fun _ hf => ?_) (fun _ hf => ?_)
      · refine run_seg (k := 3) (s' := (48, [some (vR 96), some (vI p1), some (vI p2), some (vR 7), some (vR 16)], [vI (σ 96 1), vR 16], σ)) rfl ?_
        refine run_callN (w := fun a => some (vI a)) (m := 132) (as := [vR 16, vI (σ 96 1)]) (pc := 51) (ls := [some (vR 96), some (vI p1), some (vI p2), some (vR 7), some (vR 16)]) (st' := []) (σ := σ) hf rfl (fun _ h => (c_Way_whichAt h).mono (by decide)) (fun r3 hf => ?_)
        refine run_seg (k := 2) (s' := (if r3 = p1 then (63, [some (vR 96), some (vI p1), some (vI p2), some (vR 7), some (vR 16)], [], σ) else (55, [some (vR 96), some (vI p1), some (vI p2), some (vR 7), some (vR 16)], [], σ))) rfl ?_
        refine run_ite hf (fun _ hf => ?_) (fun _ hf => ?_)
        · refine run_seg (k := 3) (s' := (66, [some (vR 96), some (vI p1), some (vI p2), some (vR 7), some (vR 16)], [vI p1, vR 7, vI p2], σ)) rfl ?_
          refine run_callN (w := fun a => some (vI a)) (m := 89) (as := [vR 7, vI p1]) (pc := 69) (ls := [some (vR 96), some (vI p1), some (vI p2), some (vR 7), some (vR 16)]) (st' := [vI p2]) (σ := σ) hf rfl (fun _ h => (c_Table_sidesOf h).mono (by decide)) (fun r4 hf => ?_)
          refine run_callN (w := fun a => some (vI a)) (m := 207) (as := [vI p2, vI r4]) (pc := 72) (ls := [some (vR 96), some (vI p1), some (vI p2), some (vR 7), some (vR 16)]) (st' := []) (σ := σ) hf rfl (fun _ h => (c_X_isWithin h).mono (by decide)) (fun r5 hf => ?_)
          refine run_seg (k := 1) (s' := (if r5 = 0 then (75, [some (vR 96), some (vI p1), some (vI p2), some (vR 7), some (vR 16)], [], σ) else (83, [some (vR 96), some (vI p1), some (vI p2), some (vR 7), some (vR 16)], [], σ))) rfl ?_
          refine run_ite hf (fun _ hf => ?_) (fun _ hf => ?_)
          · refine run_seg (k := 2) (s' := (77, [some (vR 96), some (vI p1), some (vI p2), some (vR 7), some (vR 16)], [vI 3, vR 96], σ)) rfl ?_
            refine run_callV (m := 39) (as := [vR 96, vI 3]) (pc := 80) (ls := [some (vR 96), some (vI p1), some (vI p2), some (vR 7), some (vR 16)]) (st' := []) (σ := σ) hf rfl (fun _ h => (c_Judge_blame h).mono (by decide)) (fun σ6 hf => ?_)
            refine run_seg (k := 1) (s' := (128, [some (vR 96), some (vI p1), some (vI p2), some (vR 7), some (vR 16)], [], σ6)) rfl ?_
            exact run_ret hf rfl
          · refine run_seg (k := 6) (s' := (93, [some (vR 96), some (vI p1), some (vI p2), some (vR 7), some (vR 16)], [], upS σ 96 4 (w32 ((σ 96 4) + 1)))) rfl ?_
            refine run_let (fun σ7 => (93, [some (vR 96), some (vI p1), some (vI p2), some (vR 7), some (vR 16)], [], σ7)) hf (fun σ7 hf => ?_)
            refine run_seg (k := 6) (s' := (if σ7 96 1 = 0 then (105, [some (vR 96), some (vI p1), some (vI p2), some (vR 7), some (vR 16)], [vI (σ7 96 5), vR 96], σ7) else (109, [some (vR 96), some (vI p1), some (vI p2), some (vR 7), some (vR 16)], [vI (σ7 96 5), vR 96], σ7))) rfl ?_
            refine run_ite hf (fun _ hf => ?_) (fun _ hf => ?_)
            · refine run_seg (k := 2) (s' := (110, [some (vR 96), some (vI p1), some (vI p2), some (vR 7), some (vR 16)], [vI 1, vI (σ7 96 5), vR 96], σ7)) rfl ?_
              exact r_Judge_judgeThrow_110 hf
            · refine run_seg (k := 1) (s' := (110, [some (vR 96), some (vI p1), some (vI p2), some (vR 7), some (vR 16)], [vI 0, vI (σ7 96 5), vR 96], σ7)) rfl ?_
              exact r_Judge_judgeThrow_110 hf
        · exact r_Judge_judgeThrow_55 hf
      · exact r_Judge_judgeThrow_55 hf
    · refine run_seg (k := 2) (s' := (23, [some (vR 96), some (vI p1), some (vI p2), some (vR 7), some (vR 16)], [vI 1, vR 96], σ)) rfl ?_
      refine run_callV (m := 39) (as := [vR 96, vI 1]) (pc := 26) (ls := [some (vR 96), some (vI p1), some (vI p2), some (vR 7), some (vR 16)]) (st' := []) (σ := σ) hf rfl (fun _ h => (c_Judge_blame h).mono (by decide)) (fun σ8 hf => ?_)
      refine run_seg (k := 1) (s' := (128, [some (vR 96), some (vI p1), some (vI p2), some (vR 7), some (vR 16)], [], σ8)) rfl ?_
      exact run_ret hf rfl
  · exact run_ret hf rfl
/-- BentPenny$Judge.readThrow(LBentPenny$Tokens;LBentPenny$Table;LBentPenny$Way;)Z -/
def f_Judge_readThrow (σ : xSt) : Option (Int × xSt) :=
  xbR (f_Tokens_isName σ) fun r1 =>
  if r1 = 0 then (xbW (f_Tokens_fail 1 σ) fun r2 σ3 =>
  some (xnb r2, σ3))
  else (xbR (f_Table_thingNamed 7 (σ 2 7) σ) fun r4 =>
  if r4 = (-1) then (xbW (f_Tokens_fail 3 σ) fun r5 σ6 =>
  some (xnb r5, σ6))
  else (xbR (f_Tokens_step σ) fun σ7 =>
  xbW (f_Tokens_holdsNumber 0 999 σ7) fun r8 σ9 =>
  if r8 = 0 then (some (0, σ9))
  else (xlet (σ9 2 7) fun x10 =>
  xbR (f_Tokens_step σ9) fun σ11 =>
  xbW (f_Tokens_pass 59 σ11) fun r12 σ13 =>
  if r12 = 0 then (some (0, σ13))
  else (xbR (f_Judge_judgeThrow r4 x10 σ13) fun σ14 =>
  some (1, σ14)))))
theorem c_Judge_readThrow {σ : xSt} {r : Int × xSt} (hf : f_Judge_readThrow σ = some r) : Call (4 + 1) 35 [vR 96, vR 2, vR 7, vR 16] σ (tIW r).1 (tIW r).2 := by
  unfold f_Judge_readThrow at hf
  refine call_of (own := 3) (rk := 2) (cd := kX3_readThrow) (ls := [some (vR 96), some (vR 2), some (vR 7), some (vR 16), none, none]) (rT := tIW) rfl rfl rfl rfl rfl ?_
  refine run_seg (k := 1) (s' := (1, [some (vR 96), some (vR 2), some (vR 7), some (vR 16), none, none], [vR 2], σ)) rfl ?_
  refine run_callN (w := fun a => some (vI a)) (m := 118) (as := [vR 2]) (pc := 4) (ls := [some (vR 96), some (vR 2), some (vR 7), some (vR 16), none, none]) (st' := []) (σ := σ) hf rfl (fun _ h => (c_Tokens_isName h).mono (by decide)) (fun r1 hf => ?_)
  refine run_seg (k := 1) (s' := (if r1 = 0 then (7, [some (vR 96), some (vR 2), some (vR 7), some (vR 16), none, none], [], σ) else (13, [some (vR 96), some (vR 2), some (vR 7), some (vR 16), none, none], [], σ))) rfl ?_
  refine run_ite hf (fun _ hf => ?_) (fun _ hf => ?_)
  · refine run_seg (k := 2) (s' := (9, [some (vR 96), some (vR 2), some (vR 7), some (vR 16), none, none], [vI 1, vR 2], σ)) rfl ?_
    refine run_callW (w := fun a => some (vI a)) (m := 122) (as := [vR 2, vI 1]) (pc := 12) (ls := [some (vR 96), some (vR 2), some (vR 7), some (vR 16), none, none]) (st' := []) (σ := σ) hf rfl (fun _ _ h => (c_Tokens_fail h).mono (by decide)) (fun r2 σ3 hf => ?_)
    exact run_ret hf rfl
  · refine run_seg (k := 3) (s' := (18, [some (vR 96), some (vR 2), some (vR 7), some (vR 16), none, none], [vI (σ 2 7), vR 7], σ)) rfl ?_
    refine run_callN (w := fun a => some (vI a)) (m := 95) (as := [vR 7, vI (σ 2 7)]) (pc := 21) (ls := [some (vR 96), some (vR 2), some (vR 7), some (vR 16), none, none]) (st' := []) (σ := σ) hf rfl (fun _ h => (c_Table_thingNamed_7 h).mono (by decide)) (fun r4 hf => ?_)
    refine run_seg (k := 4) (s' := (if r4 = (-1) then (29, [some (vR 96), some (vR 2), some (vR 7), some (vR 16), some (vI r4), none], [], σ) else (35, [some (vR 96), some (vR 2), some (vR 7), some (vR 16), some (vI r4), none], [], σ))) rfl ?_
    refine run_ite hf (fun _ hf => ?_) (fun _ hf => ?_)
    · refine run_seg (k := 2) (s' := (31, [some (vR 96), some (vR 2), some (vR 7), some (vR 16), some (vI r4), none], [vI 3, vR 2], σ)) rfl ?_
      refine run_callW (w := fun a => some (vI a)) (m := 122) (as := [vR 2, vI 3]) (pc := 34) (ls := [some (vR 96), some (vR 2), some (vR 7), some (vR 16), some (vI r4), none]) (st' := []) (σ := σ) hf rfl (fun _ _ h => (c_Tokens_fail h).mono (by decide)) (fun r5 σ6 hf => ?_)
      exact run_ret hf rfl
    · refine run_seg (k := 1) (s' := (36, [some (vR 96), some (vR 2), some (vR 7), some (vR 16), some (vI r4), none], [vR 2], σ)) rfl ?_
      refine run_callV (m := 116) (as := [vR 2]) (pc := 39) (ls := [some (vR 96), some (vR 2), some (vR 7), some (vR 16), some (vI r4), none]) (st' := []) (σ := σ) hf rfl (fun _ h => (c_Tokens_step h).mono (by decide)) (fun σ7 hf => ?_)
      refine run_seg (k := 3) (s' := (44, [some (vR 96), some (vR 2), some (vR 7), some (vR 16), some (vI r4), none], [vI 999, vI 0, vR 2], σ7)) rfl ?_
      refine run_callW (w := fun a => some (vI a)) (m := 124) (as := [vR 2, vI 0, vI 999]) (pc := 47) (ls := [some (vR 96), some (vR 2), some (vR 7), some (vR 16), some (vI r4), none]) (st' := []) (σ := σ7) hf rfl (fun _ _ h => (c_Tokens_holdsNumber h).mono (by decide)) (fun r8 σ9 hf => ?_)
      refine run_seg (k := 1) (s' := (if r8 = 0 then (50, [some (vR 96), some (vR 2), some (vR 7), some (vR 16), some (vI r4), none], [], σ9) else (52, [some (vR 96), some (vR 2), some (vR 7), some (vR 16), some (vI r4), none], [], σ9))) rfl ?_
      refine run_ite hf (fun _ hf => ?_) (fun _ hf => ?_)
      · refine run_seg (k := 1) (s' := (51, [some (vR 96), some (vR 2), some (vR 7), some (vR 16), some (vI r4), none], [vI 0], σ9)) rfl ?_
        exact run_ret hf rfl
      · refine run_seg (k := 3) (s' := (58, [some (vR 96), some (vR 2), some (vR 7), some (vR 16), some (vI r4), some (vI (σ9 2 7))], [], σ9)) rfl ?_
        refine run_let (fun x10 => (58, [some (vR 96), some (vR 2), some (vR 7), some (vR 16), some (vI r4), some (vI x10)], [], σ9)) hf (fun x10 hf => ?_)
        refine run_seg (k := 1) (s' := (59, [some (vR 96), some (vR 2), some (vR 7), some (vR 16), some (vI r4), some (vI x10)], [vR 2], σ9)) rfl ?_
        refine run_callV (m := 116) (as := [vR 2]) (pc := 62) (ls := [some (vR 96), some (vR 2), some (vR 7), some (vR 16), some (vI r4), some (vI x10)]) (st' := []) (σ := σ9) hf rfl (fun _ h => (c_Tokens_step h).mono (by decide)) (fun σ11 hf => ?_)
        refine run_seg (k := 2) (s' := (65, [some (vR 96), some (vR 2), some (vR 7), some (vR 16), some (vI r4), some (vI x10)], [vI 59, vR 2], σ11)) rfl ?_
        refine run_callW (w := fun a => some (vI a)) (m := 123) (as := [vR 2, vI 59]) (pc := 68) (ls := [some (vR 96), some (vR 2), some (vR 7), some (vR 16), some (vI r4), some (vI x10)]) (st' := []) (σ := σ11) hf rfl (fun _ _ h => (c_Tokens_pass h).mono (by decide)) (fun r12 σ13 hf => ?_)
        refine run_seg (k := 1) (s' := (if r12 = 0 then (71, [some (vR 96), some (vR 2), some (vR 7), some (vR 16), some (vI r4), some (vI x10)], [], σ13) else (73, [some (vR 96), some (vR 2), some (vR 7), some (vR 16), some (vI r4), some (vI x10)], [], σ13))) rfl ?_
        refine run_ite hf (fun _ hf => ?_) (fun _ hf => ?_)
        · refine run_seg (k := 1) (s' := (72, [some (vR 96), some (vR 2), some (vR 7), some (vR 16), some (vI r4), some (vI x10)], [vI 0], σ13)) rfl ?_
          exact run_ret hf rfl
        · refine run_seg (k := 5) (s' := (80, [some (vR 96), some (vR 2), some (vR 7), some (vR 16), some (vI r4), some (vI x10)], [vR 16, vR 7, vI x10, vI r4, vR 96], σ13)) rfl ?_
          refine run_callV (m := 37) (as := [vR 96, vI r4, vI x10, vR 7, vR 16]) (pc := 83) (ls := [some (vR 96), some (vR 2), some (vR 7), some (vR 16), some (vI r4), some (vI x10)]) (st' := []) (σ := σ13) hf rfl (fun _ h => (c_Judge_judgeThrow h).mono (by decide)) (fun σ14 hf => ?_)
          refine run_seg (k := 1) (s' := (84, [some (vR 96), some (vR 2), some (vR 7), some (vR 16), some (vI r4), some (vI x10)], [vI 1], σ14)) rfl ?_
          exact run_ret hf rfl
/-- BentPenny$Judge.judgeSo(ILBentPenny$Way;)V -/
def f_Judge_judgeSo (p1 : Int) (σ : xSt) : Option (xSt) :=
  if σ 96 3 = 0 then (xbR (f_Way_endAt (σ 96 1) σ) fun r1 =>
  if r1 = (-1) then (xbR (f_Judge_blame 4 σ) fun σ2 =>
  some σ2)
  else (xbR (f_Way_endAt (σ 96 1) σ) fun r3 =>
  if r3 = p1 then (some σ)
  else (xbR (f_Judge_blame 5 σ) fun σ4 =>
  some σ4)))
  else (some σ)
theorem c_Judge_judgeSo {p1 : Int} {σ : xSt} {r : xSt} (hf : f_Judge_judgeSo p1 σ = some r) : Call (3 + 1) 38 [vR 96, vI p1, vR 16] σ (tV r).1 (tV r).2 := by
  unfold f_Judge_judgeSo at hf
  refine call_of (own := 3) (rk := 0) (cd := kX3_judgeSo) (ls := [some (vR 96), some (vI p1), some (vR 16)]) (rT := tV) rfl rfl rfl rfl rfl ?_
  refine run_seg (k := 3) (s' := (if σ 96 3 = 0 then (8, [some (vR 96), some (vI p1), some (vR 16)], [], σ) else (7, [some (vR 96), some (vI p1), some (vR 16)], [], σ))) rfl ?_
  refine run_ite hf (fun _ hf => ?_) (fun _ hf => ?_)
  · refine run_seg (k := 3) (s' := (13, [some (vR 96), some (vI p1), some (vR 16)], [vI (σ 96 1), vR 16], σ)) rfl ?_
    refine run_callN (w := fun a => some (vI a)) (m := 137) (as := [vR 16, vI (σ 96 1)]) (pc := 16) (ls := [some (vR 96), some (vI p1), some (vR 16)]) (st' := []) (σ := σ) hf rfl (fun _ h => (c_Way_endAt h).mono (by decide)) (fun r1 hf => ?_)
    refine run_seg (k := 2) (s' := (if r1 = (-1) then (20, [some (vR 96), some (vI p1), some (vR 16)], [], σ) else (28, [some (vR 96), some (vI p1), some (vR 16)], [], σ))) rfl ?_
    refine run_ite hf (fun _ hf => ?_) (fun _ hf => ?_)
    · refine run_seg (k := 2) (s' := (22, [some (vR 96), some (vI p1), some (vR 16)], [vI 4, vR 96], σ)) rfl ?_
      refine run_callV (m := 39) (as := [vR 96, vI 4]) (pc := 25) (ls := [some (vR 96), some (vI p1), some (vR 16)]) (st' := []) (σ := σ) hf rfl (fun _ h => (c_Judge_blame h).mono (by decide)) (fun σ2 hf => ?_)
      refine run_seg (k := 1) (s' := (45, [some (vR 96), some (vI p1), some (vR 16)], [], σ2)) rfl ?_
      exact run_ret hf rfl
    · refine run_seg (k := 3) (s' := (33, [some (vR 96), some (vI p1), some (vR 16)], [vI (σ 96 1), vR 16], σ)) rfl ?_
      refine run_callN (w := fun a => some (vI a)) (m := 137) (as := [vR 16, vI (σ 96 1)]) (pc := 36) (ls := [some (vR 96), some (vI p1), some (vR 16)]) (st' := []) (σ := σ) hf rfl (fun _ h => (c_Way_endAt h).mono (by decide)) (fun r3 hf => ?_)
      refine run_seg (k := 2) (s' := (if r3 = p1 then (45, [some (vR 96), some (vI p1), some (vR 16)], [], σ) else (40, [some (vR 96), some (vI p1), some (vR 16)], [], σ))) rfl ?_
      refine run_ite hf (fun _ hf => ?_) (fun _ hf => ?_)
      · exact run_ret hf rfl
      · refine run_seg (k := 2) (s' := (42, [some (vR 96), some (vI p1), some (vR 16)], [vI 5, vR 96], σ)) rfl ?_
        refine run_callV (m := 39) (as := [vR 96, vI 5]) (pc := 45) (ls := [some (vR 96), some (vI p1), some (vR 16)]) (st' := []) (σ := σ) hf rfl (fun _ h => (c_Judge_blame h).mono (by decide)) (fun σ4 hf => ?_)
        exact run_ret hf rfl
  · exact run_ret hf rfl
/-- BentPenny$Judge.readSo(LBentPenny$Tokens;LBentPenny$Table;LBentPenny$Way;)Z -/
def f_Judge_readSo (σ : xSt) : Option (Int × xSt) :=
  xbR (f_Tokens_step σ) fun σ1 =>
  xbR (f_Tokens_isName σ1) fun r2 =>
  if r2 = 0 then (xbW (f_Tokens_fail 1 σ1) fun r3 σ4 =>
  some (xnb r3, σ4))
  else (xbR (f_Table_endNamed 7 (σ1 2 7) σ1) fun r5 =>
  if r5 = (-1) then (xbW (f_Tokens_fail 3 σ1) fun r6 σ7 =>
  some (xnb r6, σ7))
  else (xbR (f_Tokens_step σ1) fun σ8 =>
  xbW (f_Tokens_pass 59 σ8) fun r9 σ10 =>
  if r9 = 0 then (some (0, σ10))
  else (xbR (f_Judge_judgeSo r5 σ10) fun σ11 =>
  some (1, σ11))))
theorem c_Judge_readSo {σ : xSt} {r : Int × xSt} (hf : f_Judge_readSo σ = some r) : Call (4 + 1) 36 [vR 96, vR 2, vR 7, vR 16] σ (tIW r).1 (tIW r).2 := by
  unfold f_Judge_readSo at hf
  refine call_of (own := 3) (rk := 2) (cd := kX3_readSo) (ls := [some (vR 96), some (vR 2), some (vR 7), some (vR 16), none]) (rT := tIW) rfl rfl rfl rfl rfl ?_
  refine run_seg (k := 1) (s' := (1, [some (vR 96), some (vR 2), some (vR 7), some (vR 16), none], [vR 2], σ)) rfl ?_
  refine run_callV (m := 116) (as := [vR 2]) (pc := 4) (ls := [some (vR 96), some (vR 2), some (vR 7), some (vR 16), none]) (st' := []) (σ := σ) hf rfl (fun _ h => (c_Tokens_step h).mono (by decide)) (fun σ1 hf => ?_)
  refine run_seg (k := 1) (s' := (5, [some (vR 96), some (vR 2), some (vR 7), some (vR 16), none], [vR 2], σ1)) rfl ?_
  refine run_callN (w := fun a => some (vI a)) (m := 118) (as := [vR 2]) (pc := 8) (ls := [some (vR 96), some (vR 2), some (vR 7), some (vR 16), none]) (st' := []) (σ := σ1) hf rfl (fun _ h => (c_Tokens_isName h).mono (by decide)) (fun r2 hf => ?_)
  refine run_seg (k := 1) (s' := (if r2 = 0 then (11, [some (vR 96), some (vR 2), some (vR 7), some (vR 16), none], [], σ1) else (17, [some (vR 96), some (vR 2), some (vR 7), some (vR 16), none], [], σ1))) rfl ?_
  refine run_ite hf (fun _ hf => ?_) (fun _ hf => ?_)
  · refine run_seg (k := 2) (s' := (13, [some (vR 96), some (vR 2), some (vR 7), some (vR 16), none], [vI 1, vR 2], σ1)) rfl ?_
    refine run_callW (w := fun a => some (vI a)) (m := 122) (as := [vR 2, vI 1]) (pc := 16) (ls := [some (vR 96), some (vR 2), some (vR 7), some (vR 16), none]) (st' := []) (σ := σ1) hf rfl (fun _ _ h => (c_Tokens_fail h).mono (by decide)) (fun r3 σ4 hf => ?_)
    exact run_ret hf rfl
  · refine run_seg (k := 3) (s' := (22, [some (vR 96), some (vR 2), some (vR 7), some (vR 16), none], [vI (σ1 2 7), vR 7], σ1)) rfl ?_
    refine run_callN (w := fun a => some (vI a)) (m := 96) (as := [vR 7, vI (σ1 2 7)]) (pc := 25) (ls := [some (vR 96), some (vR 2), some (vR 7), some (vR 16), none]) (st' := []) (σ := σ1) hf rfl (fun _ h => (c_Table_endNamed_7 h).mono (by decide)) (fun r5 hf => ?_)
    refine run_seg (k := 4) (s' := (if r5 = (-1) then (33, [some (vR 96), some (vR 2), some (vR 7), some (vR 16), some (vI r5)], [], σ1) else (39, [some (vR 96), some (vR 2), some (vR 7), some (vR 16), some (vI r5)], [], σ1))) rfl ?_
    refine run_ite hf (fun _ hf => ?_) (fun _ hf => ?_)
    · refine run_seg (k := 2) (s' := (35, [some (vR 96), some (vR 2), some (vR 7), some (vR 16), some (vI r5)], [vI 3, vR 2], σ1)) rfl ?_
      refine run_callW (w := fun a => some (vI a)) (m := 122) (as := [vR 2, vI 3]) (pc := 38) (ls := [some (vR 96), some (vR 2), some (vR 7), some (vR 16), some (vI r5)]) (st' := []) (σ := σ1) hf rfl (fun _ _ h => (c_Tokens_fail h).mono (by decide)) (fun r6 σ7 hf => ?_)
      exact run_ret hf rfl
    · refine run_seg (k := 1) (s' := (40, [some (vR 96), some (vR 2), some (vR 7), some (vR 16), some (vI r5)], [vR 2], σ1)) rfl ?_
      refine run_callV (m := 116) (as := [vR 2]) (pc := 43) (ls := [some (vR 96), some (vR 2), some (vR 7), some (vR 16), some (vI r5)]) (st' := []) (σ := σ1) hf rfl (fun _ h => (c_Tokens_step h).mono (by decide)) (fun σ8 hf => ?_)
      refine run_seg (k := 2) (s' := (46, [some (vR 96), some (vR 2), some (vR 7), some (vR 16), some (vI r5)], [vI 59, vR 2], σ8)) rfl ?_
      refine run_callW (w := fun a => some (vI a)) (m := 123) (as := [vR 2, vI 59]) (pc := 49) (ls := [some (vR 96), some (vR 2), some (vR 7), some (vR 16), some (vI r5)]) (st' := []) (σ := σ8) hf rfl (fun _ _ h => (c_Tokens_pass h).mono (by decide)) (fun r9 σ10 hf => ?_)
      refine run_seg (k := 1) (s' := (if r9 = 0 then (52, [some (vR 96), some (vR 2), some (vR 7), some (vR 16), some (vI r5)], [], σ10) else (54, [some (vR 96), some (vR 2), some (vR 7), some (vR 16), some (vI r5)], [], σ10))) rfl ?_
      refine run_ite hf (fun _ hf => ?_) (fun _ hf => ?_)
      · refine run_seg (k := 1) (s' := (53, [some (vR 96), some (vR 2), some (vR 7), some (vR 16), some (vI r5)], [vI 0], σ10)) rfl ?_
        exact run_ret hf rfl
      · refine run_seg (k := 3) (s' := (58, [some (vR 96), some (vR 2), some (vR 7), some (vR 16), some (vI r5)], [vR 16, vI r5, vR 96], σ10)) rfl ?_
        refine run_callV (m := 38) (as := [vR 96, vI r5, vR 16]) (pc := 61) (ls := [some (vR 96), some (vR 2), some (vR 7), some (vR 16), some (vI r5)]) (st' := []) (σ := σ10) hf rfl (fun _ h => (c_Judge_judgeSo h).mono (by decide)) (fun σ11 hf => ?_)
        refine run_seg (k := 1) (s' := (62, [some (vR 96), some (vR 2), some (vR 7), some (vR 16), some (vI r5)], [vI 1], σ11)) rfl ?_
        exact run_ret hf rfl
def f_Judge_read_102 (σ : xSt) : Option (Int × xSt) :=
  xbW (f_Tokens_isDone σ) fun r15 σ16 =>
  some (xnb r15, σ16)
def f_Judge_read_81 (σ : xSt) : Option (Int × xSt) :=
  xbR (f_Tokens_is 141 σ) fun r12 =>
  if r12 = 0 then (f_Judge_read_102 σ)
  else (xbW (f_Judge_readSo σ) fun r13 σ14 =>
  if r13 = 0 then (some (0, σ14))
  else (f_Judge_read_102 σ14))
def f_Judge_read_30 : Nat → xSt → Option (Int × xSt)
  | 0, _ => none
  | n + 1, σ =>
    if σ 96 0 < 600 then (xbR (f_Tokens_isOut σ) fun r7 =>
    if r7 = 0 then (xbR (f_Tokens_is 141 σ) fun r8 =>
    if r8 = 0 then (xbW (f_Judge_readThrow σ) fun r9 σ10 =>
    if r9 = 0 then (some (0, σ10))
    else (xlet (upS σ10 96 0 (w32 ((σ10 96 0) + 1))) fun σ11 =>
    f_Judge_read_30 n σ11))
    else (f_Judge_read_81 σ))
    else (f_Judge_read_81 σ))
    else (f_Judge_read_81 σ)
/-- BentPenny$Judge.read(LBentPenny$Tokens;LBentPenny$Table;LBentPenny$Way;)Z -/
def f_Judge_read (σ : xSt) : Option (Int × xSt) :=
  xlet (upS σ 96 0 0) fun σ1 =>
  xlet (upS σ1 96 1 0) fun σ2 =>
  xlet (upS σ2 96 2 (-1)) fun σ3 =>
  xlet (upS σ3 96 3 0) fun σ4 =>
  xlet (upS σ4 96 4 0) fun σ5 =>
  xlet (upS σ5 96 5 0) fun σ6 =>
  f_Judge_read_30 1000000 σ6
theorem r_Judge_read_102 {g0 : Option xV} {g2 : Option xV} {g3 : Option xV} {σ : xSt} {r : Int × xSt} (hf : f_Judge_read_102 σ = some r) : Run 5 3 2 kX3_read (102, [g0, some (vR 2), g2, g3], [], σ) (tIW r) := by
  unfold f_Judge_read_102 at hf
  refine run_seg (k := 1) (s' := (103, [g0, some (vR 2), g2, g3], [vR 2], σ)) rfl ?_
  refine run_callW (w := fun a => some (vI a)) (m := 125) (as := [vR 2]) (pc := 106) (ls := [g0, some (vR 2), g2, g3]) (st' := []) (σ := σ) hf rfl (fun _ _ h => (c_Tokens_isDone h).mono (by decide)) (fun r15 σ16 hf => ?_)
  exact run_ret hf rfl
theorem r_Judge_read_81 {σ : xSt} {r : Int × xSt} (hf : f_Judge_read_81 σ = some r) : Run 5 3 2 kX3_read (81, [some (vR 96), some (vR 2), some (vR 7), some (vR 16)], [], σ) (tIW r) := by
  unfold f_Judge_read_81 at hf
  refine run_seg (k := 2) (s' := (84, [some (vR 96), some (vR 2), some (vR 7), some (vR 16)], [vR 141, vR 2], σ)) rfl ?_
  refine run_callN (w := fun a => some (vI a)) (m := 117) (as := [vR 2, vR 141]) (pc := 87) (ls := [some (vR 96), some (vR 2), some (vR 7), some (vR 16)]) (st' := []) (σ := σ) hf rfl (fun _ h => (c_Tokens_is_141 h).mono (by decide)) (fun r12 hf => ?_)
  refine run_seg (k := 1) (s' := (if r12 = 0 then (102, [some (vR 96), some (vR 2), some (vR 7), some (vR 16)], [], σ) else (90, [some (vR 96), some (vR 2), some (vR 7), some (vR 16)], [], σ))) rfl ?_
  refine run_ite hf (fun _ hf => ?_) (fun _ hf => ?_)
  · exact r_Judge_read_102 hf
  · refine run_seg (k := 4) (s' := (94, [some (vR 96), some (vR 2), some (vR 7), some (vR 16)], [vR 16, vR 7, vR 2, vR 96], σ)) rfl ?_
    refine run_callW (w := fun a => some (vI a)) (m := 36) (as := [vR 96, vR 2, vR 7, vR 16]) (pc := 97) (ls := [some (vR 96), some (vR 2), some (vR 7), some (vR 16)]) (st' := []) (σ := σ) hf rfl (fun _ _ h => (c_Judge_readSo h).mono (by decide)) (fun r13 σ14 hf => ?_)
    refine run_seg (k := 1) (s' := (if r13 = 0 then (100, [some (vR 96), some (vR 2), some (vR 7), some (vR 16)], [], σ14) else (102, [some (vR 96), some (vR 2), some (vR 7), some (vR 16)], [], σ14))) rfl ?_
    refine run_ite hf (fun _ hf => ?_) (fun _ hf => ?_)
    · refine run_seg (k := 1) (s' := (101, [some (vR 96), some (vR 2), some (vR 7), some (vR 16)], [vI 0], σ14)) rfl ?_
      exact run_ret hf rfl
    · exact r_Judge_read_102 hf
theorem r_Judge_read_30 : ∀ (n : Nat) {σ : xSt} {r : Int × xSt}, f_Judge_read_30 n σ = some r → Run 5 3 2 kX3_read (30, [some (vR 96), some (vR 2), some (vR 7), some (vR 16)], [], σ) (tIW r) := by
  intro n
  induction n with
  | zero =>
    intro _ _ h
    exact nomatch (show (none : Option (Int × xSt)) = some _ from h)
  | succ n ih =>
    intro σ r hf
    unfold f_Judge_read_30 at hf
    refine run_seg (k := 4) (s' := (if σ 96 0 < 600 then (40, [some (vR 96), some (vR 2), some (vR 7), some (vR 16)], [], σ) else (81, [some (vR 96), some (vR 2), some (vR 7), some (vR 16)], [], σ))) rfl ?_
    refine run_ite hf (fun _ hf => ?_) (fun _ hf => ?_)
    · refine run_seg (k := 1) (s' := (41, [some (vR 96), some (vR 2), some (vR 7), some (vR 16)], [vR 2], σ)) rfl ?_
      refine run_callN (w := fun a => some (vI a)) (m := 121) (as := [vR 2]) (pc := 44) (ls := [some (vR 96), some (vR 2), some (vR 7), some (vR 16)]) (st' := []) (σ := σ) hf rfl (fun _ h => (c_Tokens_isOut h).mono (by decide)) (fun r7 hf => ?_)
      refine run_seg (k := 1) (s' := (if r7 = 0 then (47, [some (vR 96), some (vR 2), some (vR 7), some (vR 16)], [], σ) else (81, [some (vR 96), some (vR 2), some (vR 7), some (vR 16)], [], σ))) rfl ?_
      refine run_ite hf (fun _ hf => ?_) (fun _ hf => ?_)
      · refine run_seg (k := 2) (s' := (50, [some (vR 96), some (vR 2), some (vR 7), some (vR 16)], [vR 141, vR 2], σ)) rfl ?_
        refine run_callN (w := fun a => some (vI a)) (m := 117) (as := [vR 2, vR 141]) (pc := 53) (ls := [some (vR 96), some (vR 2), some (vR 7), some (vR 16)]) (st' := []) (σ := σ) hf rfl (fun _ h => (c_Tokens_is_141 h).mono (by decide)) (fun r8 hf => ?_)
        refine run_seg (k := 1) (s' := (if r8 = 0 then (56, [some (vR 96), some (vR 2), some (vR 7), some (vR 16)], [], σ) else (81, [some (vR 96), some (vR 2), some (vR 7), some (vR 16)], [], σ))) rfl ?_
        refine run_ite hf (fun _ hf => ?_) (fun _ hf => ?_)
        · refine run_seg (k := 4) (s' := (60, [some (vR 96), some (vR 2), some (vR 7), some (vR 16)], [vR 16, vR 7, vR 2, vR 96], σ)) rfl ?_
          refine run_callW (w := fun a => some (vI a)) (m := 35) (as := [vR 96, vR 2, vR 7, vR 16]) (pc := 63) (ls := [some (vR 96), some (vR 2), some (vR 7), some (vR 16)]) (st' := []) (σ := σ) hf rfl (fun _ _ h => (c_Judge_readThrow h).mono (by decide)) (fun r9 σ10 hf => ?_)
          refine run_seg (k := 1) (s' := (if r9 = 0 then (66, [some (vR 96), some (vR 2), some (vR 7), some (vR 16)], [], σ10) else (68, [some (vR 96), some (vR 2), some (vR 7), some (vR 16)], [], σ10))) rfl ?_
          refine run_ite hf (fun _ hf => ?_) (fun _ hf => ?_)
          · refine run_seg (k := 1) (s' := (67, [some (vR 96), some (vR 2), some (vR 7), some (vR 16)], [vI 0], σ10)) rfl ?_
            exact run_ret hf rfl
          · refine run_seg (k := 6) (s' := (78, [some (vR 96), some (vR 2), some (vR 7), some (vR 16)], [], upS σ10 96 0 (w32 ((σ10 96 0) + 1)))) rfl ?_
            refine run_let (fun σ11 => (78, [some (vR 96), some (vR 2), some (vR 7), some (vR 16)], [], σ11)) hf (fun σ11 hf => ?_)
            refine run_seg (k := 1) (s' := (30, [some (vR 96), some (vR 2), some (vR 7), some (vR 16)], [], σ11)) rfl ?_
            exact ih hf
        · exact r_Judge_read_81 hf
      · exact r_Judge_read_81 hf
    · exact r_Judge_read_81 hf
theorem c_Judge_read {σ : xSt} {r : Int × xSt} (hf : f_Judge_read σ = some r) : Call (5 + 1) 34 [vR 96, vR 2, vR 7, vR 16] σ (tIW r).1 (tIW r).2 := by
  unfold f_Judge_read at hf
  refine call_of (own := 3) (rk := 2) (cd := kX3_read) (ls := [some (vR 96), some (vR 2), some (vR 7), some (vR 16)]) (rT := tIW) rfl rfl rfl rfl rfl ?_
  refine run_seg (k := 3) (s' := (5, [some (vR 96), some (vR 2), some (vR 7), some (vR 16)], [], upS σ 96 0 0)) rfl ?_
  refine run_let (fun σ1 => (5, [some (vR 96), some (vR 2), some (vR 7), some (vR 16)], [], σ1)) hf (fun σ1 hf => ?_)
  refine run_seg (k := 3) (s' := (10, [some (vR 96), some (vR 2), some (vR 7), some (vR 16)], [], upS σ1 96 1 0)) rfl ?_
  refine run_let (fun σ2 => (10, [some (vR 96), some (vR 2), some (vR 7), some (vR 16)], [], σ2)) hf (fun σ2 hf => ?_)
  refine run_seg (k := 3) (s' := (15, [some (vR 96), some (vR 2), some (vR 7), some (vR 16)], [], upS σ2 96 2 (-1))) rfl ?_
  refine run_let (fun σ3 => (15, [some (vR 96), some (vR 2), some (vR 7), some (vR 16)], [], σ3)) hf (fun σ3 hf => ?_)
  refine run_seg (k := 3) (s' := (20, [some (vR 96), some (vR 2), some (vR 7), some (vR 16)], [], upS σ3 96 3 0)) rfl ?_
  refine run_let (fun σ4 => (20, [some (vR 96), some (vR 2), some (vR 7), some (vR 16)], [], σ4)) hf (fun σ4 hf => ?_)
  refine run_seg (k := 3) (s' := (25, [some (vR 96), some (vR 2), some (vR 7), some (vR 16)], [], upS σ4 96 4 0)) rfl ?_
  refine run_let (fun σ5 => (25, [some (vR 96), some (vR 2), some (vR 7), some (vR 16)], [], σ5)) hf (fun σ5 hf => ?_)
  refine run_seg (k := 3) (s' := (30, [some (vR 96), some (vR 2), some (vR 7), some (vR 16)], [], upS σ5 96 5 0)) rfl ?_
  refine run_let (fun σ6 => (30, [some (vR 96), some (vR 2), some (vR 7), some (vR 16)], [], σ6)) hf (fun σ6 hf => ?_)
  exact r_Judge_read_30 1000000 hf
/-- BentPenny$Judge.keep(LBentPenny$Way;)V -/
def f_Judge_keep (σ : xSt) : Option (xSt) :=
  xlet (upS σ 96 6 1) fun σ1 =>
  xlet (upS σ1 97 0 (σ1 96 3)) fun σ2 =>
  xlet (upS σ2 97 1 (σ2 96 4)) fun σ3 =>
  xlet (upS σ3 97 2 (σ3 96 5)) fun σ4 =>
  xbR (f_Way_endAt (σ4 96 1) σ4) fun r5 =>
  xlet (upS σ4 97 3 r5) fun σ6 =>
  some σ6
theorem c_Judge_keep {σ : xSt} {r : xSt} (hf : f_Judge_keep σ = some r) : Call (3 + 1) 40 [vR 96, vR 16] σ (tV r).1 (tV r).2 := by
  unfold f_Judge_keep at hf
  refine call_of (own := 3) (rk := 0) (cd := kX3_keep) (ls := [some (vR 96), some (vR 16)]) (rT := tV) rfl rfl rfl rfl rfl ?_
  refine run_seg (k := 3) (s' := (5, [some (vR 96), some (vR 16)], [], upS σ 96 6 1)) rfl ?_
  refine run_let (fun σ1 => (5, [some (vR 96), some (vR 16)], [], σ1)) hf (fun σ1 hf => ?_)
  refine run_seg (k := 6) (s' := (15, [some (vR 96), some (vR 16)], [], upS σ1 97 0 (σ1 96 3))) rfl ?_
  refine run_let (fun σ2 => (15, [some (vR 96), some (vR 16)], [], σ2)) hf (fun σ2 hf => ?_)
  refine run_seg (k := 6) (s' := (25, [some (vR 96), some (vR 16)], [], upS σ2 97 1 (σ2 96 4))) rfl ?_
  refine run_let (fun σ3 => (25, [some (vR 96), some (vR 16)], [], σ3)) hf (fun σ3 hf => ?_)
  refine run_seg (k := 6) (s' := (35, [some (vR 96), some (vR 16)], [], upS σ3 97 2 (σ3 96 5))) rfl ?_
  refine run_let (fun σ4 => (35, [some (vR 96), some (vR 16)], [], σ4)) hf (fun σ4 hf => ?_)
  refine run_seg (k := 6) (s' := (45, [some (vR 96), some (vR 16)], [vI (σ4 96 1), vR 16, vI 3, vR 97], σ4)) rfl ?_
  refine run_callN (w := fun a => some (vI a)) (m := 137) (as := [vR 16, vI (σ4 96 1)]) (pc := 48) (ls := [some (vR 96), some (vR 16)]) (st' := [vI 3, vR 97]) (σ := σ4) hf rfl (fun _ h => (c_Way_endAt h).mono (by decide)) (fun r5 hf => ?_)
  refine run_seg (k := 1) (s' := (49, [some (vR 96), some (vR 16)], [], upS σ4 97 3 r5)) rfl ?_
  refine run_let (fun σ6 => (49, [some (vR 96), some (vR 16)], [], σ6)) hf (fun σ6 hf => ?_)
  exact run_ret hf rfl
/-- BentPenny.evening()I -/
def f_X_evening (σ : xSt) : Option (Int × xSt) :=
  xbW (f_X_takeTape σ) fun r1 σ2 =>
  xbR (f_Way_isTold σ2) fun r3 =>
  if r3 = 0 then (some ((-1000), σ2))
  else (xbR (f_Tokens_begin r1 600 σ2) fun σ4 =>
  xbW (f_Judge_read σ4) fun r5 σ6 =>
  xlet (upS σ6 0 3 (σ6 2 9)) fun σ7 =>
  if r5 = 0 then (some (w32 ((-2) - (σ7 2 10)), σ7))
  else (xbR (f_Judge_keep σ7) fun σ8 =>
  some (σ8 96 2, σ8)))
theorem c_X_evening {σ : xSt} {r : Int × xSt} (hf : f_X_evening σ = some r) : Call (6 + 1) 172 [vR 0] σ (tIW r).1 (tIW r).2 := by
  unfold f_X_evening at hf
  refine call_of (own := 11) (rk := 1) (cd := kX11_evening) (ls := [some (vR 0), none, none]) (rT := tIW) rfl rfl rfl rfl rfl ?_
  refine run_seg (k := 1) (s' := (1, [some (vR 0), none, none], [vR 0], σ)) rfl ?_
  refine run_callW (w := fun a => some (vI a)) (m := 152) (as := [vR 0]) (pc := 4) (ls := [some (vR 0), none, none]) (st' := []) (σ := σ) hf rfl (fun _ _ h => (c_X_takeTape h).mono (by decide)) (fun r1 σ2 hf => ?_)
  refine run_seg (k := 4) (s' := (12, [some (vR 0), some (vI r1), none], [vR 16], σ2)) rfl ?_
  refine run_callN (w := fun a => some (vI a)) (m := 129) (as := [vR 16]) (pc := 15) (ls := [some (vR 0), some (vI r1), none]) (st' := []) (σ := σ2) hf rfl (fun _ h => (c_Way_isTold h).mono (by decide)) (fun r3 hf => ?_)
  refine run_seg (k := 1) (s' := (if r3 = 0 then (18, [some (vR 0), some (vI r1), none], [], σ2) else (22, [some (vR 0), some (vI r1), none], [], σ2))) rfl ?_
  refine run_ite hf (fun _ hf => ?_) (fun _ hf => ?_)
  · refine run_seg (k := 1) (s' := (21, [some (vR 0), some (vI r1), none], [vI (-1000)], σ2)) rfl ?_
    exact run_ret hf rfl
  · refine run_seg (k := 4) (s' := (30, [some (vR 0), some (vI r1), none], [vI 600, vI r1, vR 2], σ2)) rfl ?_
    refine run_callV (m := 107) (as := [vR 2, vI r1, vI 600]) (pc := 33) (ls := [some (vR 0), some (vI r1), none]) (st' := []) (σ := σ2) hf rfl (fun _ h => (c_Tokens_begin h).mono (by decide)) (fun σ4 hf => ?_)
    refine run_seg (k := 10) (s' := (55, [some (vR 0), some (vI r1), none], [vR 16, vR 7, vR 2, vR 96], σ4)) rfl ?_
    refine run_callW (w := fun a => some (vI a)) (m := 34) (as := [vR 96, vR 2, vR 7, vR 16]) (pc := 58) (ls := [some (vR 0), some (vI r1), none]) (st' := []) (σ := σ4) hf rfl (fun _ _ h => (c_Judge_read h).mono (by decide)) (fun r5 σ6 hf => ?_)
    refine run_seg (k := 6) (s' := (70, [some (vR 0), some (vI r1), some (vI r5)], [], upS σ6 0 3 (σ6 2 9))) rfl ?_
    refine run_let (fun σ7 => (70, [some (vR 0), some (vI r1), some (vI r5)], [], σ7)) hf (fun σ7 hf => ?_)
    refine run_seg (k := 2) (s' := (if r5 = 0 then (74, [some (vR 0), some (vI r1), some (vI r5)], [], σ7) else (85, [some (vR 0), some (vI r1), some (vI r5)], [], σ7))) rfl ?_
    refine run_ite hf (fun _ hf => ?_) (fun _ hf => ?_)
    · refine run_seg (k := 5) (s' := (84, [some (vR 0), some (vI r1), some (vI r5)], [vI (w32 ((-2) - (σ7 2 10)))], σ7)) rfl ?_
      exact run_ret hf rfl
    · refine run_seg (k := 5) (s' := (96, [some (vR 0), some (vI r1), some (vI r5)], [vR 16, vR 96], σ7)) rfl ?_
      refine run_callV (m := 40) (as := [vR 96, vR 16]) (pc := 99) (ls := [some (vR 0), some (vI r1), some (vI r5)]) (st' := []) (σ := σ7) hf rfl (fun _ h => (c_Judge_keep h).mono (by decide)) (fun σ8 hf => ?_)
      refine run_seg (k := 3) (s' := (106, [some (vR 0), some (vI r1), some (vI r5)], [vI (σ8 96 2)], σ8)) rfl ?_
      exact run_ret hf rfl
/-- BentPenny$Judge.keptAt(I)I -/
def f_Judge_keptAt (p1 : Int) (σ : xSt) : Option (Int) :=
  if σ 96 6 = 0 then (some (-1))
  else (xbR (f_X_isWithin p1 4 σ) fun r1 =>
  if r1 = 0 then (some (-1))
  else (if 0 ≤ p1 ∧ p1 < 4 then (
  some (σ 97 p1.toNat)) else none))
theorem c_Judge_keptAt {p1 : Int} {σ : xSt} {r : Int} (hf : f_Judge_keptAt p1 σ = some r) : Call (1 + 1) 41 [vR 96, vI p1] σ ((tI σ) r).1 ((tI σ) r).2 := by
  unfold f_Judge_keptAt at hf
  refine call_of (own := 3) (rk := 1) (cd := kX3_keptAt) (ls := [some (vR 96), some (vI p1)]) (rT := (tI σ)) rfl rfl rfl rfl rfl ?_
  refine run_seg (k := 3) (s' := (if σ 96 6 = 0 then (28, [some (vR 96), some (vI p1)], [], σ) else (7, [some (vR 96), some (vI p1)], [], σ))) rfl ?_
  refine run_ite hf (fun _ hf => ?_) (fun _ hf => ?_)
  · refine run_seg (k := 1) (s' := (29, [some (vR 96), some (vI p1)], [vI (-1)], σ)) rfl ?_
    exact run_ret hf rfl
  · refine run_seg (k := 4) (s' := (13, [some (vR 96), some (vI p1)], [vI 4, vI p1], σ)) rfl ?_
    refine run_callN (w := fun a => some (vI a)) (m := 207) (as := [vI p1, vI 4]) (pc := 16) (ls := [some (vR 96), some (vI p1)]) (st' := []) (σ := σ) hf rfl (fun _ h => (c_X_isWithin h).mono (by decide)) (fun r1 hf => ?_)
    refine run_seg (k := 1) (s' := (if r1 = 0 then (28, [some (vR 96), some (vI p1)], [], σ) else (19, [some (vR 96), some (vI p1)], [], σ))) rfl ?_
    refine run_ite hf (fun _ hf => ?_) (fun _ hf => ?_)
    · refine run_seg (k := 1) (s' := (29, [some (vR 96), some (vI p1)], [vI (-1)], σ)) rfl ?_
      exact run_ret hf rfl
    · refine run_seg (k := 3) (s' := (24, [some (vR 96), some (vI p1)], [vI p1, vR 97], σ)) rfl ?_
      refine run_guard (s' := (25, [some (vR 96), some (vI p1)], [vI (σ 97 p1.toNat)], σ)) hf rfl (fun hf => ?_)
      refine run_seg (k := 1) (s' := (29, [some (vR 96), some (vI p1)], [vI (σ 97 p1.toNat)], σ)) rfl ?_
      exact run_ret hf rfl
/-- BentPenny.judged(I)I -/
def f_X_judged (p1 : Int) (σ : xSt) : Option (Int) :=
  xbR (f_Judge_keptAt p1 σ) fun r1 =>
  some r1
theorem c_X_judged {p1 : Int} {σ : xSt} {r : Int} (hf : f_X_judged p1 σ = some r) : Call (2 + 1) 173 [vR 0, vI p1] σ ((tI σ) r).1 ((tI σ) r).2 := by
  unfold f_X_judged at hf
  refine call_of (own := 11) (rk := 1) (cd := kX11_judged) (ls := [some (vR 0), some (vI p1)]) (rT := (tI σ)) rfl rfl rfl rfl rfl ?_
  refine run_seg (k := 3) (s' := (5, [some (vR 0), some (vI p1)], [vI p1, vR 96], σ)) rfl ?_
  refine run_callN (w := fun a => some (vI a)) (m := 41) (as := [vR 96, vI p1]) (pc := 8) (ls := [some (vR 0), some (vI p1)]) (st' := []) (σ := σ) hf rfl (fun _ h => (c_Judge_keptAt h).mono (by decide)) (fun r1 hf => ?_)
  exact run_ret hf rfl
def f_X_takeRow_95 (k20 : (Int → Int → xSt → Option (Int × xSt))) (l3 : Int) (l4 : Int) (s0 : Int) (s1 : Int) (σ : xSt) : Option (Int × xSt) :=
  if 0 ≤ s1 ∧ s1 < 600 then (
  xlet (upS σ 98 s1.toNat (w8 (w8 s0))) fun σ3 =>
  xlet (w32 (l4 + 1)) fun x4 =>
  k20 l3 x4 σ3) else none
def f_X_takeRow_72 (k20 : (Int → Int → xSt → Option (Int × xSt))) (l3 : Int) (l4 : Int) (σ : xSt) : Option (Int × xSt) :=
  if 0 ≤ l4 ∧ l4 < 640 then (
  if σ 1 l4.toNat = 104 then (f_X_takeRow_95 (k20) l3 l4 1 l4 σ)
  else (f_X_takeRow_95 (k20) l3 l4 0 l4 σ)) else none
def f_X_takeRow_20 : Nat → Int → Int → xSt → Option (Int × xSt)
  | 0, _, _, _ => none
  | n + 1, l3, l4, σ =>
    if l4 < l3 then (if l4 < 640 then (if l4 < 600 then (if 0 ≤ l4 ∧ l4 < 640 then (
    if σ 1 l4.toNat = 104 then (f_X_takeRow_72 (fun z0 z1 sz => f_X_takeRow_20 n z0 z1 sz) l3 l4 σ)
    else (if 0 ≤ l4 ∧ l4 < 640 then (
    if σ 1 l4.toNat = 116 then (f_X_takeRow_72 (fun z0 z1 sz => f_X_takeRow_20 n z0 z1 sz) l3 l4 σ)
    else (some ((-1), σ))) else none)) else none)
    else (some (l3, σ)))
    else (some (l3, σ)))
    else (some (l3, σ))
/-- BentPenny.takeRow(II)I -/
def f_X_takeRow (p1 : Int) (p2 : Int) (σ : xSt) : Option (Int × xSt) :=
  xbW (f_X_takeTape σ) fun r1 σ2 =>
  if r1 < p1 then (some ((-1), σ2))
  else (if p2 < r1 then (some ((-1), σ2))
  else (f_X_takeRow_20 1000000 r1 0 σ2))
theorem r_X_takeRow_95 {k20 : (Int → Int → xSt → Option (Int × xSt))} (hk20 : ∀ {l3 : Int} {l4 : Int} {g1 : Option xV} {g2 : Option xV} {σ : xSt} {r : Int × xSt}, k20 l3 l4 σ = some r → Run 1 11 1 kX11_takeRow (20, [some (vR 0), g1, g2, some (vI l3), some (vI l4)], [], σ) (tIW r)) {l3 : Int} {l4 : Int} {s0 : Int} {s1 : Int} {g1 : Option xV} {g2 : Option xV} {σ : xSt} {r : Int × xSt} (hf : f_X_takeRow_95 k20 l3 l4 s0 s1 σ = some r) : Run 1 11 1 kX11_takeRow (95, [some (vR 0), g1, g2, some (vI l3), some (vI l4)], [vI s0, vI s1, vR 98], σ) (tIW r) := by
  unfold f_X_takeRow_95 at hf
  refine run_seg (k := 1) (s' := (96, [some (vR 0), g1, g2, some (vI l3), some (vI l4)], [vI (w8 s0), vI s1, vR 98], σ)) rfl ?_
  refine run_guard (s' := (97, [some (vR 0), g1, g2, some (vI l3), some (vI l4)], [], upS σ 98 s1.toNat (w8 (w8 s0)))) hf rfl (fun hf => ?_)
  refine run_let (fun σ3 => (97, [some (vR 0), g1, g2, some (vI l3), some (vI l4)], [], σ3)) hf (fun σ3 hf => ?_)
  refine run_seg (k := 1) (s' := (100, [some (vR 0), g1, g2, some (vI l3), some (vI (w32 (l4 + 1)))], [], σ3)) rfl ?_
  refine run_let (fun x4 => (100, [some (vR 0), g1, g2, some (vI l3), some (vI x4)], [], σ3)) hf (fun x4 hf => ?_)
  refine run_seg (k := 1) (s' := (20, [some (vR 0), g1, g2, some (vI l3), some (vI x4)], [], σ3)) rfl ?_
  exact hk20 hf
theorem r_X_takeRow_72 {k20 : (Int → Int → xSt → Option (Int × xSt))} (hk20 : ∀ {l3 : Int} {l4 : Int} {g1 : Option xV} {g2 : Option xV} {σ : xSt} {r : Int × xSt}, k20 l3 l4 σ = some r → Run 1 11 1 kX11_takeRow (20, [some (vR 0), g1, g2, some (vI l3), some (vI l4)], [], σ) (tIW r)) {l3 : Int} {l4 : Int} {g1 : Option xV} {g2 : Option xV} {σ : xSt} {r : Int × xSt} (hf : f_X_takeRow_72 k20 l3 l4 σ = some r) : Run 1 11 1 kX11_takeRow (72, [some (vR 0), g1, g2, some (vI l3), some (vI l4)], [], σ) (tIW r) := by
  unfold f_X_takeRow_72 at hf
  refine run_seg (k := 6) (s' := (84, [some (vR 0), g1, g2, some (vI l3), some (vI l4)], [vI l4, vR 1, vI l4, vR 98], σ)) rfl ?_
  refine run_guard (s' := (85, [some (vR 0), g1, g2, some (vI l3), some (vI l4)], [vI (σ 1 l4.toNat), vI l4, vR 98], σ)) hf rfl (fun hf => ?_)
  refine run_seg (k := 2) (s' := (if σ 1 l4.toNat = 104 then (90, [some (vR 0), g1, g2, some (vI l3), some (vI l4)], [vI l4, vR 98], σ) else (94, [some (vR 0), g1, g2, some (vI l3), some (vI l4)], [vI l4, vR 98], σ))) rfl ?_
  refine run_ite hf (fun _ hf => ?_) (fun _ hf => ?_)
  · refine run_seg (k := 2) (s' := (95, [some (vR 0), g1, g2, some (vI l3), some (vI l4)], [vI 1, vI l4, vR 98], σ)) rfl ?_
    exact r_X_takeRow_95 (hk20) hf
  · refine run_seg (k := 1) (s' := (95, [some (vR 0), g1, g2, some (vI l3), some (vI l4)], [vI 0, vI l4, vR 98], σ)) rfl ?_
    exact r_X_takeRow_95 (hk20) hf
theorem r_X_takeRow_20 : ∀ (n : Nat) {l3 : Int} {l4 : Int} {g1 : Option xV} {g2 : Option xV} {σ : xSt} {r : Int × xSt}, f_X_takeRow_20 n l3 l4 σ = some r → Run 1 11 1 kX11_takeRow (20, [some (vR 0), g1, g2, some (vI l3), some (vI l4)], [], σ) (tIW r) := by
  intro n
  induction n with
  | zero =>
    intro _ _ _ _ _ _ h
    exact nomatch (show (none : Option (Int × xSt)) = some _ from h)
  | succ n ih =>
    intro l3 l4 g1 g2 σ r hf
    unfold f_X_takeRow_20 at hf
    refine run_seg (k := 3) (s' := (if l4 < l3 then (26, [some (vR 0), g1, g2, some (vI l3), some (vI l4)], [], σ) else (103, [some (vR 0), g1, g2, some (vI l3), some (vI l4)], [], σ))) rfl ?_
    refine run_ite hf (fun _ hf => ?_) (fun _ hf => ?_)
    · refine run_seg (k := 5) (s' := (if l4 < 640 then (36, [some (vR 0), g1, g2, some (vI l3), some (vI l4)], [], σ) else (103, [some (vR 0), g1, g2, some (vI l3), some (vI l4)], [], σ))) rfl ?_
      refine run_ite hf (fun _ hf => ?_) (fun _ hf => ?_)
      · refine run_seg (k := 5) (s' := (if l4 < 600 then (46, [some (vR 0), g1, g2, some (vI l3), some (vI l4)], [], σ) else (103, [some (vR 0), g1, g2, some (vI l3), some (vI l4)], [], σ))) rfl ?_
        refine run_ite hf (fun _ hf => ?_) (fun _ hf => ?_)
        · refine run_seg (k := 3) (s' := (52, [some (vR 0), g1, g2, some (vI l3), some (vI l4)], [vI l4, vR 1], σ)) rfl ?_
          refine run_guard (s' := (53, [some (vR 0), g1, g2, some (vI l3), some (vI l4)], [vI (σ 1 l4.toNat)], σ)) hf rfl (fun hf => ?_)
          refine run_seg (k := 2) (s' := (if σ 1 l4.toNat = 104 then (72, [some (vR 0), g1, g2, some (vI l3), some (vI l4)], [], σ) else (58, [some (vR 0), g1, g2, some (vI l3), some (vI l4)], [], σ))) rfl ?_
          refine run_ite hf (fun _ hf => ?_) (fun _ hf => ?_)
          · exact r_X_takeRow_72 (fun h => ih h) hf
          · refine run_seg (k := 3) (s' := (64, [some (vR 0), g1, g2, some (vI l3), some (vI l4)], [vI l4, vR 1], σ)) rfl ?_
            refine run_guard (s' := (65, [some (vR 0), g1, g2, some (vI l3), some (vI l4)], [vI (σ 1 l4.toNat)], σ)) hf rfl (fun hf => ?_)
            refine run_seg (k := 2) (s' := (if σ 1 l4.toNat = 116 then (72, [some (vR 0), g1, g2, some (vI l3), some (vI l4)], [], σ) else (70, [some (vR 0), g1, g2, some (vI l3), some (vI l4)], [], σ))) rfl ?_
            refine run_ite hf (fun _ hf => ?_) (fun _ hf => ?_)
            · exact r_X_takeRow_72 (fun h => ih h) hf
            · refine run_seg (k := 1) (s' := (71, [some (vR 0), g1, g2, some (vI l3), some (vI l4)], [vI (-1)], σ)) rfl ?_
              exact run_ret hf rfl
        · refine run_seg (k := 1) (s' := (104, [some (vR 0), g1, g2, some (vI l3), some (vI l4)], [vI l3], σ)) rfl ?_
          exact run_ret hf rfl
      · refine run_seg (k := 1) (s' := (104, [some (vR 0), g1, g2, some (vI l3), some (vI l4)], [vI l3], σ)) rfl ?_
        exact run_ret hf rfl
    · refine run_seg (k := 1) (s' := (104, [some (vR 0), g1, g2, some (vI l3), some (vI l4)], [vI l3], σ)) rfl ?_
      exact run_ret hf rfl
theorem c_X_takeRow {p1 : Int} {p2 : Int} {σ : xSt} {r : Int × xSt} (hf : f_X_takeRow p1 p2 σ = some r) : Call (1 + 1) 153 [vR 0, vI p1, vI p2] σ (tIW r).1 (tIW r).2 := by
  unfold f_X_takeRow at hf
  refine call_of (own := 11) (rk := 1) (cd := kX11_takeRow) (ls := [some (vR 0), some (vI p1), some (vI p2), none, none]) (rT := tIW) rfl rfl rfl rfl rfl ?_
  refine run_seg (k := 1) (s' := (1, [some (vR 0), some (vI p1), some (vI p2), none, none], [vR 0], σ)) rfl ?_
  refine run_callW (w := fun a => some (vI a)) (m := 152) (as := [vR 0]) (pc := 4) (ls := [some (vR 0), some (vI p1), some (vI p2), none, none]) (st' := []) (σ := σ) hf rfl (fun _ _ h => (c_X_takeTape h).mono (by decide)) (fun r1 σ2 hf => ?_)
  refine run_seg (k := 4) (s' := (if r1 < p1 then (15, [some (vR 0), some (vI p1), some (vI p2), some (vI r1), none], [], σ2) else (10, [some (vR 0), some (vI p1), some (vI p2), some (vI r1), none], [], σ2))) rfl ?_
  refine run_ite hf (fun _ hf => ?_) (fun _ hf => ?_)
  · refine run_seg (k := 1) (s' := (16, [some (vR 0), some (vI p1), some (vI p2), some (vI r1), none], [vI (-1)], σ2)) rfl ?_
    exact run_ret hf rfl
  · refine run_seg (k := 3) (s' := (if p2 < r1 then (15, [some (vR 0), some (vI p1), some (vI p2), some (vI r1), none], [], σ2) else (17, [some (vR 0), some (vI p1), some (vI p2), some (vI r1), none], [], σ2))) rfl ?_
    refine run_ite hf (fun _ hf => ?_) (fun _ hf => ?_)
    · refine run_seg (k := 1) (s' := (16, [some (vR 0), some (vI p1), some (vI p2), some (vI r1), none], [vI (-1)], σ2)) rfl ?_
      exact run_ret hf rfl
    · refine run_seg (k := 2) (s' := (20, [some (vR 0), some (vI p1), some (vI p2), some (vI r1), some (vI 0)], [], σ2)) rfl ?_
      exact r_X_takeRow_20 1000000 hf
