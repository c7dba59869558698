/-! printed by wip/whole/mk40.py: checks of the constructors' code; the constructors once more, with ranges checked -/
def bOkI (own pc len : Nat) : Instr → Bool
  | .newarray _ => Nat.beq len 2
  | .anewarray _ => Nat.beq len 3
  | i => okI own pc len i
def bCB (own n : Nat) (k : Nat → Option (Instr × Nat)) : Bool := (List.range n).all (fun pc => match k pc with
  | none => true
  | some (i, len) => bOkI own pc len i)
theorem bCB_of {own n : Nat} {k : Nat → Option (Instr × Nat)} (h : bCB own n k = true) (hk : ∀ pc, n ≤ pc → k pc = none) : ∀ pc i len, k pc = some (i, len) → bOkI own pc len i = true := by
  intro pc i len hi
  rcases Nat.lt_or_ge pc n with hq | hq
  · have h1 := List.all_eq_true.mp h pc (List.mem_range.mpr hq)
    rw [hi] at h1
    exact h1
  · rw [hk pc hq] at hi
    cases hi
theorem bCk_0 : ∀ pc i len, kB_0 pc = some (i, len) → bOkI 0 pc len i = true := bCB_of (n := 40) (by decide +kernel) (fun pc h => by unfold kB_0; rw [blt_ge h]; rfl)
theorem bCk_1 : ∀ pc i len, kB_1 pc = some (i, len) → bOkI 1 pc len i = true := bCB_of (n := 23) (by decide +kernel) (fun pc h => by unfold kB_1; rw [blt_ge h]; rfl)
theorem bCk_2 : ∀ pc i len, kB_2 pc = some (i, len) → bOkI 2 pc len i = true := bCB_of (n := 10) (by decide +kernel) (fun pc h => by unfold kB_2; rw [blt_ge h]; rfl)
theorem bCk_3 : ∀ pc i len, kB_3 pc = some (i, len) → bOkI 3 pc len i = true := bCB_of (n := 12) (by decide +kernel) (fun pc h => by unfold kB_3; rw [blt_ge h]; rfl)
theorem bCk_4 : ∀ pc i len, kB_4 pc = some (i, len) → bOkI 4 pc len i = true := bCB_of (n := 66) (by decide +kernel) (fun pc h => by unfold kB_4; rw [blt_ge h]; rfl)
theorem bCk_5 : ∀ pc i len, kB_5 pc = some (i, len) → bOkI 5 pc len i = true := bCB_of (n := 29) (by decide +kernel) (fun pc h => by unfold kB_5; rw [blt_ge h]; rfl)
theorem bCk_6 : ∀ pc i len, kB_6 pc = some (i, len) → bOkI 6 pc len i = true := bCB_of (n := 18) (by decide +kernel) (fun pc h => by unfold kB_6; rw [blt_ge h]; rfl)
theorem bCk_7 : ∀ pc i len, kB_7 pc = some (i, len) → bOkI 7 pc len i = true := bCB_of (n := 38) (by decide +kernel) (fun pc h => by unfold kB_7; rw [blt_ge h]; rfl)
theorem bCk_8 : ∀ pc i len, kB_8 pc = some (i, len) → bOkI 8 pc len i = true := bCB_of (n := 70) (by decide +kernel) (fun pc h => by unfold kB_8; rw [blt_ge h]; rfl)
theorem bCk_9 : ∀ pc i len, kB_9 pc = some (i, len) → bOkI 9 pc len i = true := bCB_of (n := 37) (by decide +kernel) (fun pc h => by unfold kB_9; rw [blt_ge h]; rfl)
theorem bCk_10 : ∀ pc i len, kB_10 pc = some (i, len) → bOkI 10 pc len i = true := bCB_of (n := 46) (by decide +kernel) (fun pc h => by unfold kB_10; rw [blt_ge h]; rfl)
theorem bCk_11 : ∀ pc i len, kB_11 pc = some (i, len) → bOkI 11 pc len i = true := bCB_of (n := 189) (by decide +kernel) (fun pc h => by unfold kB_11; rw [blt_ge h]; rfl)
theorem bCk_12 : ∀ pc i len, kB_12 pc = some (i, len) → bOkI 12 pc len i = true := bCB_of (n := 259) (by decide +kernel) (fun pc h => by unfold kB_12; rw [blt_ge h]; rfl)
theorem bCk_ok {ci : Nat} (h : ci < 13) : ∀ pc i len, bCode ci pc = some (i, len) → bOkI ci pc len i = true := by
  match ci, h with
  | 0, _ => exact bCk_0
  | 1, _ => exact bCk_1
  | 2, _ => exact bCk_2
  | 3, _ => exact bCk_3
  | 4, _ => exact bCk_4
  | 5, _ => exact bCk_5
  | 6, _ => exact bCk_6
  | 7, _ => exact bCk_7
  | 8, _ => exact bCk_8
  | 9, _ => exact bCk_9
  | 10, _ => exact bCk_10
  | 11, _ => exact bCk_11
  | 12, _ => exact bCk_12
  | n + 13, h => omega
theorem bCk_L : ∀ pc i len, kL_entry pc = some (i, len) → bOkI 13 pc len i = true := bCB_of (n := 23) (by decide +kernel) (fun pc h => by unfold kL_entry; rw [blt_ge h]; rfl)
theorem bEnd_ok {ci : Nat} (h : ci < 13) : bCode ci (bEnd ci) = some (.return_, 1) := by
  match ci, h with
  | 0, _ => rfl
  | 1, _ => rfl
  | 2, _ => rfl
  | 3, _ => rfl
  | 4, _ => rfl
  | 5, _ => rfl
  | 6, _ => rfl
  | 7, _ => rfl
  | 8, _ => rfl
  | 9, _ => rfl
  | 10, _ => rfl
  | 11, _ => rfl
  | 12, _ => rfl
  | n + 13, h => omega
theorem bArr_byte : Cond.arrayClass .byte ∈ GW := gIs_in (p := 77) (by decide +kernel)
theorem bArr_boolean : Cond.arrayClass .boolean ∈ GW := gIs_in (p := 138) (by decide +kernel)
theorem bArr_int : Cond.arrayClass .int ∈ GW := gIs_in (p := 78) (by decide +kernel)
theorem bArr_long : Cond.arrayClass .long ∈ GW := gIs_in (p := 260) (by decide +kernel)
theorem bArr_ov : Cond.arrayOver (.object "BentPenny$State") ∈ tables_1 := wIs_mem (p := 210) (by decide +kernel)
theorem bArr_ok {own i : Nat} {p : Nat × Nat} (h : bArr own i = some p) (h7 : p.1 = 7) : Cond.classLink (cnm own) i "BentPenny$State" ∈ GW := by
  match own, h with
  | 11, h =>
    have h1 := xlk_mem h
    simp only [List.mem_singleton, Prod.mk.injEq] at h1
    rw [h1.1]
    exact gIs_in (p := 79) (by decide +kernel)
  | 0, h => exact nomatch h
  | 1, h => exact nomatch h
  | 2, h => exact nomatch h
  | 3, h => exact nomatch h
  | 4, h => exact nomatch h
  | 5, h => exact nomatch h
  | 6, h => exact nomatch h
  | 7, h => exact nomatch h
  | 8, h => exact nomatch h
  | 9, h => exact nomatch h
  | 10, h => exact nomatch h
  | 12, h => exact nomatch h
  | 13, h => exact nomatch h
  | n + 14, h => exact nomatch h
theorem fldO_of {own i ci k : Nat} {L : List (Nat × (Nat × Nat))} {P : List (Nat × (Nat × Nat) × Nat × Nat)} (he : L = P.map (fun e => (e.1, e.2.1))) (hP : P.all (fun e => fwB own e && (!(Nat.beq e.2.1.1 own) || Nat.beq e.2.2.1 0)) = true) (h : xlk L i = some (ci, k)) (ho : ci = own) : Cond.fieldLink (cnm own) i (cnm ci) (TT ci k).2.1 (TT ci k).2.2.1 ∈ GW := by
  have h1 := xlk_mem h
  rw [he] at h1
  obtain ⟨e, he1, he2⟩ := List.mem_map.mp h1
  have h2 := List.all_eq_true.mp hP e he1
  simp only [fwB, Bool.and_eq_true, Bool.or_eq_true, Bool.not_eq_true'] at h2
  obtain ⟨e1, ⟨c1, k1⟩, n1, p1⟩ := e
  simp only [Prod.mk.injEq] at he2
  obtain ⟨rfl, rfl, rfl⟩ := he2
  have h3 : n1 = 0 := by
    rcases h2.2 with h4 | h4
    · rw [ho] at h4
      simp at h4
    · exact Nat.eq_of_beq_eq_true h4
  have h5 := wIs_mem h2.1.1.1
  simp only at h5
  rw [h3] at h5
  exact GW_of h5 rfl
theorem fldO_ok {own i ci k : Nat} (h : fld own i = some (ci, k)) (ho : ci = own) : Cond.fieldLink (cnm own) i (cnm ci) (TT ci k).2.1 (TT ci k).2.2.1 ∈ GW := by
  match own, h with
  | 0, h => exact fldO_of fldP0_eq (by decide +kernel) h ho
  | 1, h => exact fldO_of fldP1_eq (by decide +kernel) h ho
  | 2, h => exact fldO_of fldP2_eq (by decide +kernel) h ho
  | 3, h => exact fldO_of fldP3_eq (by decide +kernel) h ho
  | 4, h => exact fldO_of fldP4_eq (by decide +kernel) h ho
  | 5, h => exact fldO_of fldP5_eq (by decide +kernel) h ho
  | 6, h => exact fldO_of fldP6_eq (by decide +kernel) h ho
  | 7, h => exact fldO_of fldP7_eq (by decide +kernel) h ho
  | 8, h => exact fldO_of fldP8_eq (by decide +kernel) h ho
  | 9, h => exact fldO_of fldP9_eq (by decide +kernel) h ho
  | 10, h => exact fldO_of fldP10_eq (by decide +kernel) h ho
  | 11, h => exact fldO_of fldP11_eq (by decide +kernel) h ho
  | 12, h => exact fldO_of fldP12_eq (by decide +kernel) h ho
  | 13, h => exact fldO_of fldP13_eq (by decide +kernel) h ho
  | n + 14, h => cases h
theorem fkR_all : (List.range 13).all (fun ci => (List.range (nf ci)).all (fun k => !(Nat.beq (fty ci k) 2) || (decide (defaultValue (fTy ci k) = .null) && fits (fTy ci k) (.ref 0)))) = true := by decide +kernel
theorem fkR {ci k : Nat} (hc : ci < 13) (hk : k < nf ci) (h : fty ci k = 2) : defaultValue (fTy ci k) = .null ∧ ∀ a, fits (fTy ci k) (.ref a) = true := by
  have h1 := List.all_eq_true.mp (List.all_eq_true.mp fkR_all ci (List.mem_range.mpr hc)) k (List.mem_range.mpr hk)
  rw [h] at h1
  simp only [Bool.or_eq_true, Bool.and_eq_true, decide_eq_true_eq] at h1
  rcases h1 with h1 | h1
  · exact absurd h1 (by decide)
  · refine ⟨h1.1, fun a => ?_⟩
    have h2 := h1.2
    generalize fTy ci k = ty at h2 ⊢
    cases ty <;> first | rfl | exact h2
theorem narrowR (ty : FieldType) (a : Nat) : narrow ty (.ref a) = .ref a := by cases ty <;> rfl
/-- what the kit wants besides: the numbers that are compared are small -/
def bChk (st : List xV) : Instr → Bool
  | .if_icmp _ _ => match st with
    | .inl y :: .inl x :: _ => decide (-100000 ≤ x ∧ x < 100000 ∧ -100000 ≤ y ∧ y < 100000)
    | _ => false
  | .putfield _ => match st with
    | .inr (.inr none) :: _ => false
    | _ => true
  | .invokespecial _ => Nat.ble (st.map xcat).sum 8
  | _ => true
def bHd (n : Nat) : List xV → Bool
  | .inr (.inr (some a)) :: _ => Nat.blt a n
  | _ => false
def runC (call : Nat → List xV → bW → Option bW) (own : Nat) (cd : Nat → Option (Instr × Nat)) (stop : Nat) : Nat → bS → Option bS
  | 0, _ => none
  | n + 1, (pc, ls, st, W) => bif Nat.beq pc stop then some (pc, ls, st, W) else match cd pc with
    | none => none
    | some (i, _) => bif bChk st i then match bCall own st i with
      | some (ci, as, st') => bif bFrOk W.length ls st' && bWOk W && Nat.ble (st'.map xcat).sum 8 && as.all (bRefOk W.length) && bHd W.length as then match call ci as W with
          | some W' => runC call own cd stop n (pc + 3, ls, st', W')
          | none => none
        else none
      | none => match bStep own pc ls st W i with
        | some q => runC call own cd stop n q
        | none => none
      else none
def callC : Nat → Nat → List xV → bW → Option bW
  | 0 => fun _ _ _ => none
  | d + 1 => fun ci as W => bif Nat.ble (eL as).length (mMax (iMid ci)) then match runC (callC d) ci (bCode ci) (bEnd ci) 2000 (0, eP (mMax (iMid ci)) (eL as), [], W) with
    | some (_, _, [], W') => some W'
    | _ => none
    else none
def bLawC : Option bS := runC (callC 5) 13 kL_entry 23 2000 (0, [some (vR xscr), none, none, none, none, none, none, none], [], [])
/-- the numbers of the world at the law's loop -/
def xIni (o : Option bS) : xSt := fun a k => match o with
  | some (_, _, _, W) => match W[a]? with
    | some (_, len, f) => if k < len then bNum (f k) else 0
    | none => 0
  | none => 0
def xInit : xSt := xIni bLawC
def bSl (W : bW) : Nat := (W.map (fun c => c.2.1)).sum
def bInR (W : bW) : Bool := W.all (fun c => (List.range c.2.1).all (fun k => decide (-100000 ≤ bNum (c.2.2 k) ∧ bNum (c.2.2 k) < 100000)))
def bLawChk : Option bS → Bool
  | some (pc, ls, [], W) => Nat.beq pc 23 && bShape W && bInR W && Nat.ble (bSl W) 100000 && decide (ls = [some (vR xscr), some (vR 0), some (vR 111), some (vR 139), some (vI 0), none, none, none])
  | _ => false
theorem bLawChk_ok : bLawChk bLawC = true := by decide +kernel
