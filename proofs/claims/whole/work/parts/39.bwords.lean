/-! printed by wip/whole/mk39.py: the words behind the constructors' tables -/
def pInst (ci : Nat) : Nat := (bif Nat.blt ci 6 then (bif Nat.blt ci 3 then (bif Nat.blt ci 1 then (bif Nat.beq ci 0 then 341 else 0) else (bif Nat.blt ci 2 then (bif Nat.beq ci 1 then 311 else 0) else (bif Nat.beq ci 2 then 262 else 0))) else (bif Nat.blt ci 4 then (bif Nat.beq ci 3 then 279 else 0) else (bif Nat.blt ci 5 then (bif Nat.beq ci 4 then 212 else 0) else (bif Nat.beq ci 5 then 172 else 0)))) else (bif Nat.blt ci 9 then (bif Nat.blt ci 7 then (bif Nat.beq ci 6 then 327 else 0) else (bif Nat.blt ci 8 then (bif Nat.beq ci 7 then 80 else 0) else (bif Nat.beq ci 8 then 86 else 0))) else (bif Nat.blt ci 11 then (bif Nat.blt ci 10 then (bif Nat.beq ci 9 then 32 else 0) else (bif Nat.beq ci 10 then 140 else 0)) else (bif Nat.blt ci 12 then (bif Nat.beq ci 11 then 24 else 0) else (bif Nat.beq ci 12 then 1467 else 0)))))
def pInit (ci : Nat) : Nat := (bif Nat.blt ci 6 then (bif Nat.blt ci 3 then (bif Nat.blt ci 1 then (bif Nat.beq ci 0 then 12 else 0) else (bif Nat.blt ci 2 then (bif Nat.beq ci 1 then 10 else 0) else (bif Nat.beq ci 2 then 8 else 0))) else (bif Nat.blt ci 4 then (bif Nat.beq ci 3 then 9 else 0) else (bif Nat.blt ci 5 then (bif Nat.beq ci 4 then 7 else 0) else (bif Nat.beq ci 5 then 6 else 0)))) else (bif Nat.blt ci 9 then (bif Nat.blt ci 7 then (bif Nat.beq ci 6 then 11 else 0) else (bif Nat.blt ci 8 then (bif Nat.beq ci 7 then 3 else 0) else (bif Nat.beq ci 8 then 4 else 0))) else (bif Nat.blt ci 11 then (bif Nat.blt ci 10 then (bif Nat.beq ci 9 then 2 else 0) else (bif Nat.beq ci 10 then 5 else 0)) else (bif Nat.blt ci 12 then (bif Nat.beq ci 11 then 1 else 0) else (bif Nat.beq ci 12 then 13 else 0)))))
def pMeth (ci : Nat) : Nat := (bif Nat.blt ci 6 then (bif Nat.blt ci 3 then (bif Nat.blt ci 1 then (bif Nat.beq ci 0 then 343 else 0) else (bif Nat.blt ci 2 then (bif Nat.beq ci 1 then 313 else 0) else (bif Nat.beq ci 2 then 264 else 0))) else (bif Nat.blt ci 4 then (bif Nat.beq ci 3 then 281 else 0) else (bif Nat.blt ci 5 then (bif Nat.beq ci 4 then 214 else 0) else (bif Nat.beq ci 5 then 174 else 0)))) else (bif Nat.blt ci 9 then (bif Nat.blt ci 7 then (bif Nat.beq ci 6 then 329 else 0) else (bif Nat.blt ci 8 then (bif Nat.beq ci 7 then 82 else 0) else (bif Nat.beq ci 8 then 88 else 0))) else (bif Nat.blt ci 11 then (bif Nat.blt ci 10 then (bif Nat.beq ci 9 then 34 else 0) else (bif Nat.beq ci 10 then 142 else 0)) else (bif Nat.blt ci 12 then (bif Nat.beq ci 11 then 26 else 0) else (bif Nat.beq ci 12 then 1469 else 0)))))
def gIs (p : Nat) (w : Cond) : Bool := wIs p w && goodWord w
theorem gIs_in {p : Nat} {w : Cond} (h : gIs p w = true) : w ∈ GW := by
  unfold gIs at h
  simp only [Bool.and_eq_true] at h
  exact GW_of (wIs_mem h.1) h.2
def bNewB (own : Nat) (x : Nat × (Nat × Nat)) : Bool := gIs x.2.2 (.classLink (cnm own) x.1 (cnm x.2.1)) && gIs (pInst x.2.1) (.instantiable (cnm x.2.1) (nf x.2.1)) && gIs (pInit x.2.1) (.initialized (cnm x.2.1)) && Nat.blt x.2.1 13
theorem bNew_c_0 : ([(11, ((2, 346) : Nat × Nat))] : List _).all (bNewB 0) = true := by decide +kernel
theorem bNew_c_7 : ([(7, ((8, 85) : Nat × Nat)), (16, ((10, 139) : Nat × Nat)), (23, ((5, 171) : Nat × Nat))] : List _).all (bNewB 7) = true := by decide +kernel
theorem bNew_c_11 : ([(13, ((9, 31) : Nat × Nat)), (22, ((7, 79) : Nat × Nat)), (36, ((4, 211) : Nat × Nat)), (43, ((2, 261) : Nat × Nat)), (50, ((3, 278) : Nat × Nat)), (60, ((1, 310) : Nat × Nat)), (67, ((6, 326) : Nat × Nat)), (77, ((0, 340) : Nat × Nat))] : List _).all (bNewB 11) = true := by decide +kernel
theorem bNew_c_13 : ([(8, ((11, 23) : Nat × Nat)), (53, ((12, 1466) : Nat × Nat))] : List _).all (bNewB 13) = true := by decide +kernel
theorem bNew_ok {own i : Nat} {ci p : Nat} (h : bNew own i = some (ci, p)) : Cond.classLink (cnm own) i (cnm ci) ∈ GW ∧ Cond.instantiable (cnm ci) (nf ci) ∈ GW ∧ Cond.initialized (cnm ci) ∈ GW ∧ ci < 13 := by
  have key : ∃ L : List (Nat × _), L.all (bNewB own) = true ∧ xlk L i = some (ci, p) := by
    match own, h with
    | 0, h => exact ⟨_, bNew_c_0, h⟩
    | 7, h => exact ⟨_, bNew_c_7, h⟩
    | 11, h => exact ⟨_, bNew_c_11, h⟩
    | 13, h => exact ⟨_, bNew_c_13, h⟩
    | 1, h => exact nomatch h
    | 2, h => exact nomatch h
    | 3, h => exact nomatch h
    | 4, h => exact nomatch h
    | 5, h => exact nomatch h
    | 6, h => exact nomatch h
    | 8, h => exact nomatch h
    | 9, h => exact nomatch h
    | 10, h => exact nomatch h
    | 12, h => exact nomatch h
    | n + 14, h => exact nomatch h
  obtain ⟨L, h1, h2⟩ := key
  have h3 := List.all_eq_true.mp h1 _ (xlk_mem h2)
  unfold bNewB at h3
  simp only [Bool.and_eq_true] at h3
  exact ⟨gIs_in h3.1.1.1, gIs_in h3.1.1.2, gIs_in h3.1.2, Nat.le_of_ble_eq_true h3.2⟩
def bObjB (own : Nat) (x : Nat × Nat) : Bool := gIs x.2 (.methodLink (cnm own) x.1 objectInit)
theorem bObj_c_0 : ([(5, 345)] : List _).all (bObjB 0) = true := by decide +kernel
theorem bObj_c_1 : ([(3, 315)] : List _).all (bObjB 1) = true := by decide +kernel
theorem bObj_c_2 : ([(1, 266)] : List _).all (bObjB 2) = true := by decide +kernel
theorem bObj_c_3 : ([(3, 283)] : List _).all (bObjB 3) = true := by decide +kernel
theorem bObj_c_4 : ([(3, 216)] : List _).all (bObjB 4) = true := by decide +kernel
theorem bObj_c_5 : ([(5, 176)] : List _).all (bObjB 5) = true := by decide +kernel
theorem bObj_c_6 : ([(3, 331)] : List _).all (bObjB 6) = true := by decide +kernel
theorem bObj_c_7 : ([(1, 84)] : List _).all (bObjB 7) = true := by decide +kernel
theorem bObj_c_8 : ([(3, 90)] : List _).all (bObjB 8) = true := by decide +kernel
theorem bObj_c_9 : ([(3, 36)] : List _).all (bObjB 9) = true := by decide +kernel
theorem bObj_c_10 : ([(3, 144)] : List _).all (bObjB 10) = true := by decide +kernel
theorem bObj_c_11 : ([(1, 28)] : List _).all (bObjB 11) = true := by decide +kernel
theorem bObj_c_12 : ([(1, 1471)] : List _).all (bObjB 12) = true := by decide +kernel
theorem bObj_ok {own i : Nat} {p : Nat} (h : bObj own i = some p) : Cond.methodLink (cnm own) i objectInit ∈ GW := by
  have key : ∃ L : List (Nat × _), L.all (bObjB own) = true ∧ xlk L i = some p := by
    match own, h with
    | 0, h => exact ⟨_, bObj_c_0, h⟩
    | 1, h => exact ⟨_, bObj_c_1, h⟩
    | 2, h => exact ⟨_, bObj_c_2, h⟩
    | 3, h => exact ⟨_, bObj_c_3, h⟩
    | 4, h => exact ⟨_, bObj_c_4, h⟩
    | 5, h => exact ⟨_, bObj_c_5, h⟩
    | 6, h => exact ⟨_, bObj_c_6, h⟩
    | 7, h => exact ⟨_, bObj_c_7, h⟩
    | 8, h => exact ⟨_, bObj_c_8, h⟩
    | 9, h => exact ⟨_, bObj_c_9, h⟩
    | 10, h => exact ⟨_, bObj_c_10, h⟩
    | 11, h => exact ⟨_, bObj_c_11, h⟩
    | 12, h => exact ⟨_, bObj_c_12, h⟩
    | 13, h => exact nomatch h
    | n + 14, h => exact nomatch h
  obtain ⟨L, h1, h2⟩ := key
  have h3 := List.all_eq_true.mp h1 _ (xlk_mem h2)
  exact gIs_in h3
theorem obj_inst : Cond.instanceMethod objectInit ∈ GW := gIs_in (p := 29) (by decide +kernel)
theorem obj_code : Cond.code objectInit ⟨#[0xb1]⟩ 1 none ∈ GW := GW_of (tbk_1 (List.mem_of_getElem? (i := 30) rfl)) rfl
def iw (own i ci nest : Nat) : Cond := bif Nat.beq nest 0 then .methodLink (cnm own) i (mY (iMid ci)) else .methodLinkNest (cnm own) i (mY (iMid ci)) "BentPenny"
def bIniB (own : Nat) (x : Nat × (Nat × Nat × Nat)) : Bool := wIs x.2.2.2 (iw own x.1 x.2.1 x.2.2.1) && gIs (pMeth x.2.1) (.instanceMethod (mY (iMid x.2.1))) && gIs (pInit x.2.1) (.initialized (cnm x.2.1)) && Nat.blt x.2.1 13 && decide ((mY (iMid x.2.1)).cls = cnm x.2.1 ∧ (mY (iMid x.2.1)).name = "<init>" ∧ (parseMethodDescriptor (mY (iMid x.2.1)).desc).map (fun d => d.parameters.length) = some (iArg x.2.1))
theorem bIni_c_0 : ([(13, ((2, 1, 347) : Nat × Nat × Nat))] : List _).all (bIniB 0) = true := by decide +kernel
theorem bIni_c_7 : ([(9, ((8, 1, 87) : Nat × Nat × Nat)), (18, ((10, 1, 141) : Nat × Nat × Nat)), (25, ((5, 1, 173) : Nat × Nat × Nat))] : List _).all (bIniB 7) = true := by decide +kernel
theorem bIni_c_11 : ([(15, ((9, 1, 33) : Nat × Nat × Nat)), (24, ((7, 1, 81) : Nat × Nat × Nat)), (38, ((4, 1, 213) : Nat × Nat × Nat)), (45, ((2, 1, 263) : Nat × Nat × Nat)), (52, ((3, 1, 280) : Nat × Nat × Nat)), (62, ((1, 1, 312) : Nat × Nat × Nat)), (69, ((6, 1, 328) : Nat × Nat × Nat)), (79, ((0, 1, 342) : Nat × Nat × Nat))] : List _).all (bIniB 11) = true := by decide +kernel
theorem bIni_c_13 : ([(52, ((11, 0, 25) : Nat × Nat × Nat)), (55, ((12, 0, 1468) : Nat × Nat × Nat))] : List _).all (bIniB 13) = true := by decide +kernel
theorem bIni_ok {own i : Nat} {ci nest p : Nat} (h : bIni own i = some (ci, nest, p)) : iw own i ci nest ∈ tables_1 ∧ Cond.instanceMethod (mY (iMid ci)) ∈ GW ∧ Cond.initialized (cnm ci) ∈ GW ∧ ci < 13 ∧ (mY (iMid ci)).cls = cnm ci ∧ (mY (iMid ci)).name = "<init>" ∧ (parseMethodDescriptor (mY (iMid ci)).desc).map (fun d => d.parameters.length) = some (iArg ci) := by
  have key : ∃ L : List (Nat × _), L.all (bIniB own) = true ∧ xlk L i = some (ci, nest, p) := by
    match own, h with
    | 0, h => exact ⟨_, bIni_c_0, h⟩
    | 7, h => exact ⟨_, bIni_c_7, h⟩
    | 11, h => exact ⟨_, bIni_c_11, h⟩
    | 13, h => exact ⟨_, bIni_c_13, h⟩
    | 1, h => exact nomatch h
    | 2, h => exact nomatch h
    | 3, h => exact nomatch h
    | 4, h => exact nomatch h
    | 5, h => exact nomatch h
    | 6, h => exact nomatch h
    | 8, h => exact nomatch h
    | 9, h => exact nomatch h
    | 10, h => exact nomatch h
    | 12, h => exact nomatch h
    | n + 14, h => exact nomatch h
  obtain ⟨L, h1, h2⟩ := key
  have h3 := List.all_eq_true.mp h1 _ (xlk_mem h2)
  unfold bIniB at h3
  simp only [Bool.and_eq_true, decide_eq_true_eq] at h3
  exact ⟨wIs_mem h3.1.1.1.1, gIs_in h3.1.1.1.2, gIs_in h3.1.1.2, Nat.le_of_ble_eq_true h3.1.2, h3.2⟩
set_option maxRecDepth 20000 in
theorem mCi_0 : tables_1_2[104]? = some (.code (mY 0) (mBytes 0) (mMax 0) (mRet 0)) := rfl
set_option maxRecDepth 20000 in
theorem mCi_1 : tables_1_2[74]? = some (.code (mY 12) (mBytes 12) (mMax 12) (mRet 12)) := rfl
set_option maxRecDepth 20000 in
theorem mCi_2 : tables_1_2[25]? = some (.code (mY 27) (mBytes 27) (mMax 27) (mRet 27)) := rfl
set_option maxRecDepth 20000 in
theorem mCi_3 : tables_1_2[42]? = some (.code (mY 33) (mBytes 33) (mMax 33) (mRet 33)) := rfl
set_option maxRecDepth 20000 in
theorem mCi_4 : tables_1_1[215]? = some (.code (mY 42) (mBytes 42) (mMax 42) (mRet 42)) := rfl
set_option maxRecDepth 20000 in
theorem mCi_5 : tables_1_1[175]? = some (.code (mY 57) (mBytes 57) (mMax 57) (mRet 57)) := rfl
set_option maxRecDepth 20000 in
theorem mCi_6 : tables_1_2[90]? = some (.code (mY 71) (mBytes 71) (mMax 71) (mRet 71)) := rfl
set_option maxRecDepth 20000 in
theorem mCi_7 : tables_1_1[83]? = some (.code (mY 80) (mBytes 80) (mMax 80) (mRet 80)) := rfl
set_option maxRecDepth 20000 in
theorem mCi_8 : tables_1_1[89]? = some (.code (mY 82) (mBytes 82) (mMax 82) (mRet 82)) := rfl
set_option maxRecDepth 20000 in
theorem mCi_9 : tables_1_1[35]? = some (.code (mY 106) (mBytes 106) (mMax 106) (mRet 106)) := rfl
set_option maxRecDepth 20000 in
theorem mCi_10 : tables_1_1[143]? = some (.code (mY 126) (mBytes 126) (mMax 126) (mRet 126)) := rfl
set_option maxRecDepth 20000 in
theorem mCi_11 : tables_1_1[27]? = some (.code (mY 148) (mBytes 148) (mMax 148) (mRet 148)) := rfl
set_option maxRecDepth 20000 in
theorem mCi_12 : tables_1_7[30]? = some (.code (mY 208) (mBytes 208) (mMax 208) (mRet 208)) := rfl
theorem iCode_ok {ci : Nat} (h : ci < 13) : Cond.code (mY (iMid ci)) (mBytes (iMid ci)) (mMax (iMid ci)) none ∈ GW := by
  match ci, h with
  | 0, _ => exact GW_of (tbk_2 (List.mem_of_getElem? mCi_0)) rfl
  | 1, _ => exact GW_of (tbk_2 (List.mem_of_getElem? mCi_1)) rfl
  | 2, _ => exact GW_of (tbk_2 (List.mem_of_getElem? mCi_2)) rfl
  | 3, _ => exact GW_of (tbk_2 (List.mem_of_getElem? mCi_3)) rfl
  | 4, _ => exact GW_of (tbk_1 (List.mem_of_getElem? mCi_4)) rfl
  | 5, _ => exact GW_of (tbk_1 (List.mem_of_getElem? mCi_5)) rfl
  | 6, _ => exact GW_of (tbk_2 (List.mem_of_getElem? mCi_6)) rfl
  | 7, _ => exact GW_of (tbk_1 (List.mem_of_getElem? mCi_7)) rfl
  | 8, _ => exact GW_of (tbk_1 (List.mem_of_getElem? mCi_8)) rfl
  | 9, _ => exact GW_of (tbk_1 (List.mem_of_getElem? mCi_9)) rfl
  | 10, _ => exact GW_of (tbk_1 (List.mem_of_getElem? mCi_10)) rfl
  | 11, _ => exact GW_of (tbk_1 (List.mem_of_getElem? mCi_11)) rfl
  | 12, _ => exact GW_of (tbk_7 (List.mem_of_getElem? mCi_12)) rfl
  | n + 13, h => omega
def cdC (bytes : ByteArray) (k : Nat → Option (Instr × Nat)) (n : Nat) : Bool := (List.range n).all (fun pc => match k pc with
  | none => true
  | some (i, len) => decide (decode bytes pc = .ok (i, len)))
def CdB (cc : ByteArray) (cd : Nat → Option (Instr × Nat)) : Prop := ∀ pc i len, cd pc = some (i, len) → decode cc pc = .ok (i, len)
theorem cdC_of {n : Nat} {bytes : ByteArray} {k : Nat → Option (Instr × Nat)} (h : cdC bytes k n = true) (hk : ∀ pc, n ≤ pc → k pc = none) : CdB bytes k := by
  intro pc i len hi
  rcases Nat.lt_or_ge pc n with hq | hq
  · have h1 := List.all_eq_true.mp h pc (List.mem_range.mpr hq)
    rw [hi] at h1
    exact of_decide_eq_true h1
  · rw [hk pc hq] at hi
    cases hi
theorem cdC_0 : CdB (mBytes 0) kB_0 := cdC_of (n := 40) (by decide +kernel) (fun pc h => by unfold kB_0; rw [blt_ge h]; rfl)
theorem cdC_1 : CdB (mBytes 12) kB_1 := cdC_of (n := 23) (by decide +kernel) (fun pc h => by unfold kB_1; rw [blt_ge h]; rfl)
theorem cdC_2 : CdB (mBytes 27) kB_2 := cdC_of (n := 10) (by decide +kernel) (fun pc h => by unfold kB_2; rw [blt_ge h]; rfl)
theorem cdC_3 : CdB (mBytes 33) kB_3 := cdC_of (n := 12) (by decide +kernel) (fun pc h => by unfold kB_3; rw [blt_ge h]; rfl)
theorem cdC_4 : CdB (mBytes 42) kB_4 := cdC_of (n := 66) (by decide +kernel) (fun pc h => by unfold kB_4; rw [blt_ge h]; rfl)
theorem cdC_5 : CdB (mBytes 57) kB_5 := cdC_of (n := 29) (by decide +kernel) (fun pc h => by unfold kB_5; rw [blt_ge h]; rfl)
theorem cdC_6 : CdB (mBytes 71) kB_6 := cdC_of (n := 18) (by decide +kernel) (fun pc h => by unfold kB_6; rw [blt_ge h]; rfl)
theorem cdC_7 : CdB (mBytes 80) kB_7 := cdC_of (n := 38) (by decide +kernel) (fun pc h => by unfold kB_7; rw [blt_ge h]; rfl)
theorem cdC_8 : CdB (mBytes 82) kB_8 := cdC_of (n := 70) (by decide +kernel) (fun pc h => by unfold kB_8; rw [blt_ge h]; rfl)
theorem cdC_9 : CdB (mBytes 106) kB_9 := cdC_of (n := 37) (by decide +kernel) (fun pc h => by unfold kB_9; rw [blt_ge h]; rfl)
theorem cdC_10 : CdB (mBytes 126) kB_10 := cdC_of (n := 46) (by decide +kernel) (fun pc h => by unfold kB_10; rw [blt_ge h]; rfl)
theorem cdC_11 : CdB (mBytes 148) kB_11 := cdC_of (n := 189) (by decide +kernel) (fun pc h => by unfold kB_11; rw [blt_ge h]; rfl)
theorem cdC_12 : CdB (mBytes 208) kB_12 := cdC_of (n := 259) (by decide +kernel) (fun pc h => by unfold kB_12; rw [blt_ge h]; rfl)
theorem cdC_ok {ci : Nat} (h : ci < 13) : CdB (mBytes (iMid ci)) (bCode ci) := by
  match ci, h with
  | 0, _ => exact cdC_0
  | 1, _ => exact cdC_1
  | 2, _ => exact cdC_2
  | 3, _ => exact cdC_3
  | 4, _ => exact cdC_4
  | 5, _ => exact cdC_5
  | 6, _ => exact cdC_6
  | 7, _ => exact cdC_7
  | 8, _ => exact cdC_8
  | 9, _ => exact cdC_9
  | 10, _ => exact cdC_10
  | 11, _ => exact cdC_11
  | 12, _ => exact cdC_12
  | n + 13, h => omega
theorem cdL_entry : CdB cL_law kL_entry := cdC_of (n := 23) (by decide +kernel) (fun pc h => by unfold kL_entry; rw [blt_ge h]; rfl)
