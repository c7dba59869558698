/-! printed by wip/whole/mk36.py: the methods of the law that call and catch -/
theorem mthOk13 : (mthL13.filter (fun e => Nat.blt e.2.1 352)).all (fun e => mP.any (fun q => Nat.beq q.1 e.2.1 && (bif Nat.beq e.2.2.2 0 then Nat.beq q.2.2.2.2 0 else !Nat.beq q.2.2.2.2 0))) = true := by decide +kernel
theorem mth_in13 {t : Nat} (ht : Nat.blt t 352 = true) : ∀ ix n v, mth 13 ix = some (t, n, v) → ∃ q ∈ mP, q.1 = t ∧ (v = 0 ↔ q.2.2.2.2 = 0) := by
  intro ix n v h
  have hm := xlk_mem (show xlk mthL13 ix = some (t, n, v) from h)
  have h1 := List.all_eq_true.mp mthOk13 _ (List.mem_filter.mpr ⟨hm, ht⟩)
  obtain ⟨q, hq, h2⟩ := List.any_eq_true.mp h1
  simp only [Bool.and_eq_true] at h2
  refine ⟨q, hq, Nat.eq_of_beq_eq_true h2.1, ?_⟩
  have h3 := h2.2
  cases hz_ : Nat.beq v 0 with
  | true =>
    rw [hz_] at h3
    exact ⟨fun _ => Nat.eq_of_beq_eq_true h3, fun _ => Nat.eq_of_beq_eq_true hz_⟩
  | false =>
    rw [hz_] at h3
    have h4 : Nat.beq q.2.2.2.2 0 = false := by simpa using h3
    exact ⟨fun w_ => (Bool.eq_false_iff.mp hz_ (by rw [w_]; rfl)).elim, fun w_ => (Bool.eq_false_iff.mp h4 (by rw [w_]; rfl)).elim⟩
theorem lw_clk : Cond.classLink "BentPennyLaw" 13 nsee ∈ tables_1 := wIs_mem (p := 1266) (by decide +kernel)
/-- the numbers behind a method of the law -/
def wSt (r : Option Int × xSt) : xSt := match r.1 with
  | none => r.2
  | some v => upS r.2 139 0 v
def rmW : Room := { rmD 1002 with cells := 1, slots := 6 }
theorem cdL_thing : CdOk 13 cL_thing kL_thing := cd_of (n := 19) (by decide +kernel) (fun pc h => by unfold kL_thing; rw [blt_ge h]; rfl)
set_option maxRecDepth 20000 in
theorem mCw352 : tables_1_6[65]? = some (.codeWith (mY 352) (mBytes 352) (mMax 352) (some .int) [(0, 10, 13, 13)]) := rfl
theorem wr_thing {l : Launch} (hl : l.stackTraces = false) (HS : StrLaw l) {cs ρ adV : Nat → Nat} {dC : Nat → ClassId} {dI : Nat → Nat → Nat} (hinj : ∀ a b, a < xNA → b < xNA → ρ a = ρ b → a = b) {p1 p2 : Int} (h1 : in32 p1) (h2 : in32 p2) {σ : xSt} (hσ : InR σ) {r : Option Int × xSt} (hf : f_X_thing p1 p2 σ = some r) :
    ∀ sz, vx_Met l (mY 352) (Cond.codeWith (mY 352) (mBytes 352) (mMax 352) (some .int) [(0, 10, 13, 13)] :: GW) rmW (PcT cs ρ adV dC dI [vR 0, vI p1, vI p2, vR 139] σ sz) (QcG cs ρ dC dI (some (vI (wKind (tXI r).1))) (wSt r) (AW ρ sz)) (fun _ _ _ => False) 1 6 (AW ρ sz) := by
  obtain ⟨N, hC⟩ := (c_X_thing hf).mono (d' := 1000 + 1) (by decide)
  refine wrap_ok hl HS hinj (N := N) (d := 1000) (w := 352) (t := 156) (n1 := 5) (n2 := 4) (P := 5) (E := 10) (Hd := 13) (h2 := 15) (xl := 4) (ix := 7) (pcE := 18) (as := [vR 0, vI p1, vI p2, vR 139]) (as' := [vR 0, vI p1, vI p2]) (st1 := [vI p2, vI p1, vR 0, vI 0, vR 139]) (st' := [vI 0, vR 139]) (ls1 := [some (vR 0), some (vI p1), some (vI p2), some (vR 139), none]) (σ := σ) (σ' := (tXI r).2) (σ'' := wSt r) (res := (tXI r).1)
    rfl rfl rfl (by decide) rfl cdL_thing (tbk_6 (List.mem_of_getElem? mCw352)) lw_clk (by decide) (Or.inl ⟨rfl, rfl⟩) (by decide) rfl rfl (Nat.le_of_ble_eq_true rfl) rfl rfl rfl (mth_in13 rfl) hC (by decide +kernel) thc_thing ?_ ?_ rfl ?_ hσ ?_
  · intro v hv
    rcases List.mem_cons.mp hv with rfl | hv
    · trivial
    rcases List.mem_cons.mp hv with rfl | hv
    · exact h1
    rcases List.mem_cons.mp hv with rfl | hv
    · exact h2
    cases hv
  · intro v hv
    obtain ⟨o_, σ1⟩ := r
    cases o_ with
    | none => cases hv
    | some x =>
      cases hv
      exact ⟨_, rfl⟩
  · intro hv
    obtain ⟨o_, σ1⟩ := r
    cases o_ with
    | none => rfl
    | some x => cases hv
  · intro v hv
    rcases List.mem_cons.mp hv with rfl | hv
    · trivial
    rcases List.mem_cons.mp hv with rfl | hv
    · exact h1
    rcases List.mem_cons.mp hv with rfl | hv
    · exact h2
    rcases List.mem_cons.mp hv with rfl | hv
    · trivial
    cases hv
theorem cdL_chance : CdOk 13 cL_chance kL_chance := cd_of (n := 18) (by decide +kernel) (fun pc h => by unfold kL_chance; rw [blt_ge h]; rfl)
set_option maxRecDepth 20000 in
theorem mCw353 : tables_1_6[136]? = some (.codeWith (mY 353) (mBytes 353) (mMax 353) (some .int) [(0, 9, 12, 13)]) := rfl
theorem wr_chance {l : Launch} (hl : l.stackTraces = false) (HS : StrLaw l) {cs ρ adV : Nat → Nat} {dC : Nat → ClassId} {dI : Nat → Nat → Nat} (hinj : ∀ a b, a < xNA → b < xNA → ρ a = ρ b → a = b) {p1 p2 : Int} (h1 : in32 p1) (h2 : in32 p2) {σ : xSt} (hσ : InR σ) {r : Option Int × xSt} (hf : f_X_chance p1 p2 σ = some r) :
    ∀ sz, vx_Met l (mY 353) (Cond.codeWith (mY 353) (mBytes 353) (mMax 353) (some .int) [(0, 9, 12, 13)] :: GW) rmW (PcT cs ρ adV dC dI [vR 0, vI p1, vI p2, vR 139] σ sz) (QcG cs ρ dC dI (some (vI (wKind (tXL r).1))) (wSt r) (AW ρ sz)) (fun _ _ _ => False) 1 6 (AW ρ sz) := by
  obtain ⟨N, hC⟩ := (c_X_chance hf).mono (d' := 1000 + 1) (by decide)
  refine wrap_ok hl HS hinj (N := N) (d := 1000) (w := 353) (t := 164) (n1 := 5) (n2 := 3) (P := 5) (E := 9) (Hd := 12) (h2 := 14) (xl := 4) (ix := 15) (pcE := 17) (as := [vR 0, vI p1, vI p2, vR 139]) (as' := [vR 0, vI p1, vI p2]) (st1 := [vI p2, vI p1, vR 0, vI 0, vR 139]) (st' := [vI 0, vR 139]) (ls1 := [some (vR 0), some (vI p1), some (vI p2), some (vR 139), none]) (σ := σ) (σ' := (tXL r).2) (σ'' := wSt r) (res := (tXL r).1)
    rfl rfl rfl (by decide) rfl cdL_chance (tbk_6 (List.mem_of_getElem? mCw353)) lw_clk (by decide) (Or.inl ⟨rfl, rfl⟩) (by decide) rfl rfl (Nat.le_of_ble_eq_true rfl) rfl rfl rfl (mth_in13 rfl) hC (by decide +kernel) thc_chance ?_ ?_ rfl ?_ hσ ?_
  · intro v hv
    rcases List.mem_cons.mp hv with rfl | hv
    · trivial
    rcases List.mem_cons.mp hv with rfl | hv
    · exact h1
    rcases List.mem_cons.mp hv with rfl | hv
    · exact h2
    cases hv
  · intro v hv
    obtain ⟨o_, σ1⟩ := r
    cases o_ with
    | none => cases hv
    | some x =>
      cases hv
      exact ⟨_, rfl⟩
  · intro hv
    obtain ⟨o_, σ1⟩ := r
    cases o_ with
    | none => rfl
    | some x => cases hv
  · intro v hv
    rcases List.mem_cons.mp hv with rfl | hv
    · trivial
    rcases List.mem_cons.mp hv with rfl | hv
    · exact h1
    rcases List.mem_cons.mp hv with rfl | hv
    · exact h2
    rcases List.mem_cons.mp hv with rfl | hv
    · trivial
    cases hv
theorem cdL_chanceAt : CdOk 13 cL_chanceAt kL_chanceAt := cd_of (n := 22) (by decide +kernel) (fun pc h => by unfold kL_chanceAt; rw [blt_ge h]; rfl)
set_option maxRecDepth 20000 in
theorem mCw354 : tables_1_6[160]? = some (.codeWith (mY 354) (mBytes 354) (mMax 354) (some .int) [(0, 13, 16, 13)]) := rfl
theorem wr_chanceAt {l : Launch} (hl : l.stackTraces = false) (HS : StrLaw l) {cs ρ adV : Nat → Nat} {dC : Nat → ClassId} {dI : Nat → Nat → Nat} (hinj : ∀ a b, a < xNA → b < xNA → ρ a = ρ b → a = b) {p1 p2 p3 p4 : Int} (h1 : in32 p1) (h2 : in32 p2) (h3 : in32 p3) (h4 : in32 p4) {σ : xSt} (hσ : InR σ) {r : Option Int × xSt} (hf : f_X_chanceAt p1 p2 p3 p4 σ = some r) :
    ∀ sz, vx_Met l (mY 354) (Cond.codeWith (mY 354) (mBytes 354) (mMax 354) (some .int) [(0, 13, 16, 13)] :: GW) rmW (PcT cs ρ adV dC dI [vR 0, vI p1, vI p2, vI p3, vI p4, vR 139] σ sz) (QcG cs ρ dC dI (some (vI (wKind (tXL r).1))) (wSt r) (AW ρ sz)) (fun _ _ _ => False) 1 6 (AW ρ sz) := by
  obtain ⟨N, hC⟩ := (c_X_chanceAt hf).mono (d' := 1000 + 1) (by decide)
  refine wrap_ok hl HS hinj (N := N) (d := 1000) (w := 354) (t := 165) (n1 := 7) (n2 := 3) (P := 9) (E := 13) (Hd := 16) (h2 := 18) (xl := 6) (ix := 19) (pcE := 21) (as := [vR 0, vI p1, vI p2, vI p3, vI p4, vR 139]) (as' := [vR 0, vI p1, vI p2, vI p3, vI p4]) (st1 := [vI p4, vI p3, vI p2, vI p1, vR 0, vI 0, vR 139]) (st' := [vI 0, vR 139]) (ls1 := [some (vR 0), some (vI p1), some (vI p2), some (vI p3), some (vI p4), some (vR 139), none]) (σ := σ) (σ' := (tXL r).2) (σ'' := wSt r) (res := (tXL r).1)
    rfl rfl rfl (by decide) rfl cdL_chanceAt (tbk_6 (List.mem_of_getElem? mCw354)) lw_clk (by decide) (Or.inl ⟨rfl, rfl⟩) (by decide) rfl rfl (Nat.le_of_ble_eq_true rfl) rfl rfl rfl (mth_in13 rfl) hC (by decide +kernel) thc_chanceAt ?_ ?_ rfl ?_ hσ ?_
  · intro v hv
    rcases List.mem_cons.mp hv with rfl | hv
    · trivial
    rcases List.mem_cons.mp hv with rfl | hv
    · exact h1
    rcases List.mem_cons.mp hv with rfl | hv
    · exact h2
    rcases List.mem_cons.mp hv with rfl | hv
    · exact h3
    rcases List.mem_cons.mp hv with rfl | hv
    · exact h4
    cases hv
  · intro v hv
    obtain ⟨o_, σ1⟩ := r
    cases o_ with
    | none => cases hv
    | some x =>
      cases hv
      exact ⟨_, rfl⟩
  · intro hv
    obtain ⟨o_, σ1⟩ := r
    cases o_ with
    | none => rfl
    | some x => cases hv
  · intro v hv
    rcases List.mem_cons.mp hv with rfl | hv
    · trivial
    rcases List.mem_cons.mp hv with rfl | hv
    · exact h1
    rcases List.mem_cons.mp hv with rfl | hv
    · exact h2
    rcases List.mem_cons.mp hv with rfl | hv
    · exact h3
    rcases List.mem_cons.mp hv with rfl | hv
    · exact h4
    rcases List.mem_cons.mp hv with rfl | hv
    · trivial
    cases hv
theorem cdL_mean : CdOk 13 cL_mean kL_mean := cd_of (n := 20) (by decide +kernel) (fun pc h => by unfold kL_mean; rw [blt_ge h]; rfl)
set_option maxRecDepth 20000 in
theorem mCw355 : tables_1_6[167]? = some (.codeWith (mY 355) (mBytes 355) (mMax 355) (some .int) [(0, 11, 14, 13)]) := rfl
theorem wr_mean {l : Launch} (hl : l.stackTraces = false) (HS : StrLaw l) {cs ρ adV : Nat → Nat} {dC : Nat → ClassId} {dI : Nat → Nat → Nat} (hinj : ∀ a b, a < xNA → b < xNA → ρ a = ρ b → a = b) {p1 p2 p3 : Int} (h1 : in32 p1) (h2 : in32 p2) (h3 : in32 p3) {σ : xSt} (hσ : InR σ) {r : Option Int × xSt} (hf : f_X_mean p1 p2 p3 σ = some r) :
    ∀ sz, vx_Met l (mY 355) (Cond.codeWith (mY 355) (mBytes 355) (mMax 355) (some .int) [(0, 11, 14, 13)] :: GW) rmW (PcT cs ρ adV dC dI [vR 0, vI p1, vI p2, vI p3, vR 139] σ sz) (QcG cs ρ dC dI (some (vI (wKind (tXL r).1))) (wSt r) (AW ρ sz)) (fun _ _ _ => False) 1 6 (AW ρ sz) := by
  obtain ⟨N, hC⟩ := (c_X_mean hf).mono (d' := 1000 + 1) (by decide)
  refine wrap_ok hl HS hinj (N := N) (d := 1000) (w := 355) (t := 166) (n1 := 6) (n2 := 3) (P := 7) (E := 11) (Hd := 14) (h2 := 16) (xl := 5) (ix := 23) (pcE := 19) (as := [vR 0, vI p1, vI p2, vI p3, vR 139]) (as' := [vR 0, vI p1, vI p2, vI p3]) (st1 := [vI p3, vI p2, vI p1, vR 0, vI 0, vR 139]) (st' := [vI 0, vR 139]) (ls1 := [some (vR 0), some (vI p1), some (vI p2), some (vI p3), some (vR 139), none]) (σ := σ) (σ' := (tXL r).2) (σ'' := wSt r) (res := (tXL r).1)
    rfl rfl rfl (by decide) rfl cdL_mean (tbk_6 (List.mem_of_getElem? mCw355)) lw_clk (by decide) (Or.inl ⟨rfl, rfl⟩) (by decide) rfl rfl (Nat.le_of_ble_eq_true rfl) rfl rfl rfl (mth_in13 rfl) hC (by decide +kernel) thc_mean ?_ ?_ rfl ?_ hσ ?_
  · intro v hv
    rcases List.mem_cons.mp hv with rfl | hv
    · trivial
    rcases List.mem_cons.mp hv with rfl | hv
    · exact h1
    rcases List.mem_cons.mp hv with rfl | hv
    · exact h2
    rcases List.mem_cons.mp hv with rfl | hv
    · exact h3
    cases hv
  · intro v hv
    obtain ⟨o_, σ1⟩ := r
    cases o_ with
    | none => cases hv
    | some x =>
      cases hv
      exact ⟨_, rfl⟩
  · intro hv
    obtain ⟨o_, σ1⟩ := r
    cases o_ with
    | none => rfl
    | some x => cases hv
  · intro v hv
    rcases List.mem_cons.mp hv with rfl | hv
    · trivial
    rcases List.mem_cons.mp hv with rfl | hv
    · exact h1
    rcases List.mem_cons.mp hv with rfl | hv
    · exact h2
    rcases List.mem_cons.mp hv with rfl | hv
    · exact h3
    rcases List.mem_cons.mp hv with rfl | hv
    · trivial
    cases hv
theorem cdL_poly : CdOk 13 cL_poly kL_poly := cd_of (n := 20) (by decide +kernel) (fun pc h => by unfold kL_poly; rw [blt_ge h]; rfl)
set_option maxRecDepth 20000 in
theorem mCw356 : tables_1_6[174]? = some (.codeWith (mY 356) (mBytes 356) (mMax 356) (some .int) [(0, 11, 14, 13)]) := rfl
theorem wr_poly {l : Launch} (hl : l.stackTraces = false) (HS : StrLaw l) {cs ρ adV : Nat → Nat} {dC : Nat → ClassId} {dI : Nat → Nat → Nat} (hinj : ∀ a b, a < xNA → b < xNA → ρ a = ρ b → a = b) {p1 p2 p3 : Int} (h1 : in32 p1) (h2 : in32 p2) (h3 : in32 p3) {σ : xSt} (hσ : InR σ) {r : Option Int × xSt} (hf : f_X_poly p1 p2 p3 σ = some r) :
    ∀ sz, vx_Met l (mY 356) (Cond.codeWith (mY 356) (mBytes 356) (mMax 356) (some .int) [(0, 11, 14, 13)] :: GW) rmW (PcT cs ρ adV dC dI [vR 0, vI p1, vI p2, vI p3, vR 139] σ sz) (QcG cs ρ dC dI (some (vI (wKind (tXL r).1))) (wSt r) (AW ρ sz)) (fun _ _ _ => False) 1 6 (AW ρ sz) := by
  obtain ⟨N, hC⟩ := (c_X_poly hf).mono (d' := 1000 + 1) (by decide)
  refine wrap_ok hl HS hinj (N := N) (d := 1000) (w := 356) (t := 169) (n1 := 6) (n2 := 3) (P := 7) (E := 11) (Hd := 14) (h2 := 16) (xl := 5) (ix := 27) (pcE := 19) (as := [vR 0, vI p1, vI p2, vI p3, vR 139]) (as' := [vR 0, vI p1, vI p2, vI p3]) (st1 := [vI p3, vI p2, vI p1, vR 0, vI 0, vR 139]) (st' := [vI 0, vR 139]) (ls1 := [some (vR 0), some (vI p1), some (vI p2), some (vI p3), some (vR 139), none]) (σ := σ) (σ' := (tXL r).2) (σ'' := wSt r) (res := (tXL r).1)
    rfl rfl rfl (by decide) rfl cdL_poly (tbk_6 (List.mem_of_getElem? mCw356)) lw_clk (by decide) (Or.inl ⟨rfl, rfl⟩) (by decide) rfl rfl (Nat.le_of_ble_eq_true rfl) rfl rfl rfl (mth_in13 rfl) hC (by decide +kernel) thc_poly ?_ ?_ rfl ?_ hσ ?_
  · intro v hv
    rcases List.mem_cons.mp hv with rfl | hv
    · trivial
    rcases List.mem_cons.mp hv with rfl | hv
    · exact h1
    rcases List.mem_cons.mp hv with rfl | hv
    · exact h2
    rcases List.mem_cons.mp hv with rfl | hv
    · exact h3
    cases hv
  · intro v hv
    obtain ⟨o_, σ1⟩ := r
    cases o_ with
    | none => cases hv
    | some x =>
      cases hv
      exact ⟨_, rfl⟩
  · intro hv
    obtain ⟨o_, σ1⟩ := r
    cases o_ with
    | none => rfl
    | some x => cases hv
  · intro v hv
    rcases List.mem_cons.mp hv with rfl | hv
    · trivial
    rcases List.mem_cons.mp hv with rfl | hv
    · exact h1
    rcases List.mem_cons.mp hv with rfl | hv
    · exact h2
    rcases List.mem_cons.mp hv with rfl | hv
    · exact h3
    rcases List.mem_cons.mp hv with rfl | hv
    · trivial
    cases hv
theorem cdL_countedMean : CdOk 13 cL_countedMean kL_countedMean := cd_of (n := 22) (by decide +kernel) (fun pc h => by unfold kL_countedMean; rw [blt_ge h]; rfl)
set_option maxRecDepth 20000 in
theorem mCw357 : tables_1_6[182]? = some (.codeWith (mY 357) (mBytes 357) (mMax 357) (some .int) [(0, 13, 16, 13)]) := rfl
theorem wr_countedMean {l : Launch} (hl : l.stackTraces = false) (HS : StrLaw l) {cs ρ adV : Nat → Nat} {dC : Nat → ClassId} {dI : Nat → Nat → Nat} (hinj : ∀ a b, a < xNA → b < xNA → ρ a = ρ b → a = b) {p1 p2 p3 p4 : Int} (h1 : in32 p1) (h2 : in32 p2) (h3 : in32 p3) (h4 : in32 p4) {σ : xSt} (hσ : InR σ) {r : Option Int × xSt} (hf : f_X_countedMean p1 p2 p3 p4 σ = some r) :
    ∀ sz, vx_Met l (mY 357) (Cond.codeWith (mY 357) (mBytes 357) (mMax 357) (some .int) [(0, 13, 16, 13)] :: GW) rmW (PcT cs ρ adV dC dI [vR 0, vI p1, vI p2, vI p3, vI p4, vR 139] σ sz) (QcG cs ρ dC dI (some (vI (wKind (tXL r).1))) (wSt r) (AW ρ sz)) (fun _ _ _ => False) 1 6 (AW ρ sz) := by
  obtain ⟨N, hC⟩ := (c_X_countedMean hf).mono (d' := 1000 + 1) (by decide)
  refine wrap_ok hl HS hinj (N := N) (d := 1000) (w := 357) (t := 179) (n1 := 7) (n2 := 3) (P := 9) (E := 13) (Hd := 16) (h2 := 18) (xl := 6) (ix := 30) (pcE := 21) (as := [vR 0, vI p1, vI p2, vI p3, vI p4, vR 139]) (as' := [vR 0, vI p1, vI p2, vI p3, vI p4]) (st1 := [vI p4, vI p3, vI p2, vI p1, vR 0, vI 0, vR 139]) (st' := [vI 0, vR 139]) (ls1 := [some (vR 0), some (vI p1), some (vI p2), some (vI p3), some (vI p4), some (vR 139), none]) (σ := σ) (σ' := (tXL r).2) (σ'' := wSt r) (res := (tXL r).1)
    rfl rfl rfl (by decide) rfl cdL_countedMean (tbk_6 (List.mem_of_getElem? mCw357)) lw_clk (by decide) (Or.inl ⟨rfl, rfl⟩) (by decide) rfl rfl (Nat.le_of_ble_eq_true rfl) rfl rfl rfl (mth_in13 rfl) hC (by decide +kernel) thc_countedMean ?_ ?_ rfl ?_ hσ ?_
  · intro v hv
    rcases List.mem_cons.mp hv with rfl | hv
    · trivial
    rcases List.mem_cons.mp hv with rfl | hv
    · exact h1
    rcases List.mem_cons.mp hv with rfl | hv
    · exact h2
    rcases List.mem_cons.mp hv with rfl | hv
    · exact h3
    rcases List.mem_cons.mp hv with rfl | hv
    · exact h4
    cases hv
  · intro v hv
    obtain ⟨o_, σ1⟩ := r
    cases o_ with
    | none => cases hv
    | some x =>
      cases hv
      exact ⟨_, rfl⟩
  · intro hv
    obtain ⟨o_, σ1⟩ := r
    cases o_ with
    | none => rfl
    | some x => cases hv
  · intro v hv
    rcases List.mem_cons.mp hv with rfl | hv
    · trivial
    rcases List.mem_cons.mp hv with rfl | hv
    · exact h1
    rcases List.mem_cons.mp hv with rfl | hv
    · exact h2
    rcases List.mem_cons.mp hv with rfl | hv
    · exact h3
    rcases List.mem_cons.mp hv with rfl | hv
    · exact h4
    rcases List.mem_cons.mp hv with rfl | hv
    · trivial
    cases hv
theorem cdL_fewest : CdOk 13 cL_fewest kL_fewest := cd_of (n := 16) (by decide +kernel) (fun pc h => by unfold kL_fewest; rw [blt_ge h]; rfl)
set_option maxRecDepth 20000 in
theorem mCw358 : tables_1_6[194]? = some (.codeWith (mY 358) (mBytes 358) (mMax 358) (some .int) [(0, 8, 11, 13)]) := rfl
theorem wr_fewest {l : Launch} (hl : l.stackTraces = false) (HS : StrLaw l) {cs ρ adV : Nat → Nat} {dC : Nat → ClassId} {dI : Nat → Nat → Nat} (hinj : ∀ a b, a < xNA → b < xNA → ρ a = ρ b → a = b) {p1 : Int} (h1 : in32 p1) {σ : xSt} (hσ : InR σ) {r : Option Int × xSt} (hf : f_X_fewest p1 σ = some r) :
    ∀ sz, vx_Met l (mY 358) (Cond.codeWith (mY 358) (mBytes 358) (mMax 358) (some .int) [(0, 8, 11, 13)] :: GW) rmW (PcT cs ρ adV dC dI [vR 0, vI p1, vR 139] σ sz) (QcG cs ρ dC dI (some (vI (wKind (tXL r).1))) (wSt r) (AW ρ sz)) (fun _ _ _ => False) 1 6 (AW ρ sz) := by
  obtain ⟨N, hC⟩ := (c_X_fewest hf).mono (d' := 1000 + 1) (by decide)
  refine wrap_ok hl HS hinj (N := N) (d := 1000) (w := 358) (t := 182) (n1 := 4) (n2 := 3) (P := 4) (E := 8) (Hd := 11) (h2 := 12) (xl := 3) (ix := 33) (pcE := 15) (as := [vR 0, vI p1, vR 139]) (as' := [vR 0, vI p1]) (st1 := [vI p1, vR 0, vI 0, vR 139]) (st' := [vI 0, vR 139]) (ls1 := [some (vR 0), some (vI p1), some (vR 139), none]) (σ := σ) (σ' := (tXL r).2) (σ'' := wSt r) (res := (tXL r).1)
    rfl rfl rfl (by decide) rfl cdL_fewest (tbk_6 (List.mem_of_getElem? mCw358)) lw_clk (by decide) (Or.inr ⟨3, rfl, rfl, rfl⟩) (by decide) rfl rfl (Nat.le_of_ble_eq_true rfl) rfl rfl rfl (mth_in13 rfl) hC (by decide +kernel) thc_fewest ?_ ?_ rfl ?_ hσ ?_
  · intro v hv
    rcases List.mem_cons.mp hv with rfl | hv
    · trivial
    rcases List.mem_cons.mp hv with rfl | hv
    · exact h1
    cases hv
  · intro v hv
    obtain ⟨o_, σ1⟩ := r
    cases o_ with
    | none => cases hv
    | some x =>
      cases hv
      exact ⟨_, rfl⟩
  · intro hv
    obtain ⟨o_, σ1⟩ := r
    cases o_ with
    | none => rfl
    | some x => cases hv
  · intro v hv
    rcases List.mem_cons.mp hv with rfl | hv
    · trivial
    rcases List.mem_cons.mp hv with rfl | hv
    · exact h1
    rcases List.mem_cons.mp hv with rfl | hv
    · trivial
    cases hv
theorem cdL_off : CdOk 13 cL_off kL_off := cd_of (n := 18) (by decide +kernel) (fun pc h => by unfold kL_off; rw [blt_ge h]; rfl)
set_option maxRecDepth 20000 in
theorem mCw359 : tables_1_6[208]? = some (.codeWith (mY 359) (mBytes 359) (mMax 359) (some .int) [(0, 9, 12, 13)]) := rfl
theorem wr_off {l : Launch} (hl : l.stackTraces = false) (HS : StrLaw l) {cs ρ adV : Nat → Nat} {dC : Nat → ClassId} {dI : Nat → Nat → Nat} (hinj : ∀ a b, a < xNA → b < xNA → ρ a = ρ b → a = b) {p1 p2 : Int} (h1 : in32 p1) (h2 : in32 p2) {σ : xSt} (hσ : InR σ) {r : Option Int × xSt} (hf : f_X_off p1 p2 σ = some r) :
    ∀ sz, vx_Met l (mY 359) (Cond.codeWith (mY 359) (mBytes 359) (mMax 359) (some .int) [(0, 9, 12, 13)] :: GW) rmW (PcT cs ρ adV dC dI [vR 0, vI p1, vI p2, vR 139] σ sz) (QcG cs ρ dC dI (some (vI (wKind (tXL r).1))) (wSt r) (AW ρ sz)) (fun _ _ _ => False) 1 6 (AW ρ sz) := by
  obtain ⟨N, hC⟩ := (c_X_off hf).mono (d' := 1000 + 1) (by decide)
  refine wrap_ok hl HS hinj (N := N) (d := 1000) (w := 359) (t := 184) (n1 := 5) (n2 := 3) (P := 5) (E := 9) (Hd := 12) (h2 := 14) (xl := 4) (ix := 37) (pcE := 17) (as := [vR 0, vI p1, vI p2, vR 139]) (as' := [vR 0, vI p1, vI p2]) (st1 := [vI p2, vI p1, vR 0, vI 0, vR 139]) (st' := [vI 0, vR 139]) (ls1 := [some (vR 0), some (vI p1), some (vI p2), some (vR 139), none]) (σ := σ) (σ' := (tXL r).2) (σ'' := wSt r) (res := (tXL r).1)
    rfl rfl rfl (by decide) rfl cdL_off (tbk_6 (List.mem_of_getElem? mCw359)) lw_clk (by decide) (Or.inl ⟨rfl, rfl⟩) (by decide) rfl rfl (Nat.le_of_ble_eq_true rfl) rfl rfl rfl (mth_in13 rfl) hC (by decide +kernel) thc_off ?_ ?_ rfl ?_ hσ ?_
  · intro v hv
    rcases List.mem_cons.mp hv with rfl | hv
    · trivial
    rcases List.mem_cons.mp hv with rfl | hv
    · exact h1
    rcases List.mem_cons.mp hv with rfl | hv
    · exact h2
    cases hv
  · intro v hv
    obtain ⟨o_, σ1⟩ := r
    cases o_ with
    | none => cases hv
    | some x =>
      cases hv
      exact ⟨_, rfl⟩
  · intro hv
    obtain ⟨o_, σ1⟩ := r
    cases o_ with
    | none => rfl
    | some x => cases hv
  · intro v hv
    rcases List.mem_cons.mp hv with rfl | hv
    · trivial
    rcases List.mem_cons.mp hv with rfl | hv
    · exact h1
    rcases List.mem_cons.mp hv with rfl | hv
    · exact h2
    rcases List.mem_cons.mp hv with rfl | hv
    · trivial
    cases hv
theorem cdL_mixed : CdOk 13 cL_mixed kL_mixed := cd_of (n := 20) (by decide +kernel) (fun pc h => by unfold kL_mixed; rw [blt_ge h]; rfl)
set_option maxRecDepth 20000 in
theorem mCw360 : tables_1_6[220]? = some (.codeWith (mY 360) (mBytes 360) (mMax 360) (some .int) [(0, 11, 14, 13)]) := rfl
theorem wr_mixed {l : Launch} (hl : l.stackTraces = false) (HS : StrLaw l) {cs ρ adV : Nat → Nat} {dC : Nat → ClassId} {dI : Nat → Nat → Nat} (hinj : ∀ a b, a < xNA → b < xNA → ρ a = ρ b → a = b) {p1 p2 p3 : Int} (h1 : in32 p1) (h2 : in32 p2) (h3 : in32 p3) {σ : xSt} (hσ : InR σ) {r : Option Int × xSt} (hf : f_X_mixed p1 p2 p3 σ = some r) :
    ∀ sz, vx_Met l (mY 360) (Cond.codeWith (mY 360) (mBytes 360) (mMax 360) (some .int) [(0, 11, 14, 13)] :: GW) rmW (PcT cs ρ adV dC dI [vR 0, vI p1, vI p2, vI p3, vR 139] σ sz) (QcG cs ρ dC dI (some (vI (wKind (tXL r).1))) (wSt r) (AW ρ sz)) (fun _ _ _ => False) 1 6 (AW ρ sz) := by
  obtain ⟨N, hC⟩ := (c_X_mixed hf).mono (d' := 1000 + 1) (by decide)
  refine wrap_ok hl HS hinj (N := N) (d := 1000) (w := 360) (t := 185) (n1 := 6) (n2 := 3) (P := 7) (E := 11) (Hd := 14) (h2 := 16) (xl := 5) (ix := 40) (pcE := 19) (as := [vR 0, vI p1, vI p2, vI p3, vR 139]) (as' := [vR 0, vI p1, vI p2, vI p3]) (st1 := [vI p3, vI p2, vI p1, vR 0, vI 0, vR 139]) (st' := [vI 0, vR 139]) (ls1 := [some (vR 0), some (vI p1), some (vI p2), some (vI p3), some (vR 139), none]) (σ := σ) (σ' := (tXL r).2) (σ'' := wSt r) (res := (tXL r).1)
    rfl rfl rfl (by decide) rfl cdL_mixed (tbk_6 (List.mem_of_getElem? mCw360)) lw_clk (by decide) (Or.inl ⟨rfl, rfl⟩) (by decide) rfl rfl (Nat.le_of_ble_eq_true rfl) rfl rfl rfl (mth_in13 rfl) hC (by decide +kernel) thc_mixed ?_ ?_ rfl ?_ hσ ?_
  · intro v hv
    rcases List.mem_cons.mp hv with rfl | hv
    · trivial
    rcases List.mem_cons.mp hv with rfl | hv
    · exact h1
    rcases List.mem_cons.mp hv with rfl | hv
    · exact h2
    rcases List.mem_cons.mp hv with rfl | hv
    · exact h3
    cases hv
  · intro v hv
    obtain ⟨o_, σ1⟩ := r
    cases o_ with
    | none => cases hv
    | some x =>
      cases hv
      exact ⟨_, rfl⟩
  · intro hv
    obtain ⟨o_, σ1⟩ := r
    cases o_ with
    | none => rfl
    | some x => cases hv
  · intro v hv
    rcases List.mem_cons.mp hv with rfl | hv
    · trivial
    rcases List.mem_cons.mp hv with rfl | hv
    · exact h1
    rcases List.mem_cons.mp hv with rfl | hv
    · exact h2
    rcases List.mem_cons.mp hv with rfl | hv
    · exact h3
    rcases List.mem_cons.mp hv with rfl | hv
    · trivial
    cases hv
theorem cdL_luck : CdOk 13 cL_luck kL_luck := cd_of (n := 20) (by decide +kernel) (fun pc h => by unfold kL_luck; rw [blt_ge h]; rfl)
set_option maxRecDepth 20000 in
theorem mCw361 : tables_1_7[4]? = some (.codeWith (mY 361) (mBytes 361) (mMax 361) (some .int) [(0, 11, 14, 13)]) := rfl
theorem wr_luck {l : Launch} (hl : l.stackTraces = false) (HS : StrLaw l) {cs ρ adV : Nat → Nat} {dC : Nat → ClassId} {dI : Nat → Nat → Nat} (hinj : ∀ a b, a < xNA → b < xNA → ρ a = ρ b → a = b) {p1 p2 p3 : Int} (h1 : in32 p1) (h2 : in32 p2) (h3 : in32 p3) {σ : xSt} (hσ : InR σ) {r : Option Int × xSt} (hf : f_X_luck p1 p2 p3 σ = some r) :
    ∀ sz, vx_Met l (mY 361) (Cond.codeWith (mY 361) (mBytes 361) (mMax 361) (some .int) [(0, 11, 14, 13)] :: GW) rmW (PcT cs ρ adV dC dI [vR 0, vI p1, vI p2, vI p3, vR 139] σ sz) (QcG cs ρ dC dI (some (vI (wKind (tXL r).1))) (wSt r) (AW ρ sz)) (fun _ _ _ => False) 1 6 (AW ρ sz) := by
  obtain ⟨N, hC⟩ := (c_X_luck hf).mono (d' := 1000 + 1) (by decide)
  refine wrap_ok hl HS hinj (N := N) (d := 1000) (w := 361) (t := 186) (n1 := 6) (n2 := 3) (P := 7) (E := 11) (Hd := 14) (h2 := 16) (xl := 5) (ix := 43) (pcE := 19) (as := [vR 0, vI p1, vI p2, vI p3, vR 139]) (as' := [vR 0, vI p1, vI p2, vI p3]) (st1 := [vI p3, vI p2, vI p1, vR 0, vI 0, vR 139]) (st' := [vI 0, vR 139]) (ls1 := [some (vR 0), some (vI p1), some (vI p2), some (vI p3), some (vR 139), none]) (σ := σ) (σ' := (tXL r).2) (σ'' := wSt r) (res := (tXL r).1)
    rfl rfl rfl (by decide) rfl cdL_luck (tbk_7 (List.mem_of_getElem? mCw361)) lw_clk (by decide) (Or.inl ⟨rfl, rfl⟩) (by decide) rfl rfl (Nat.le_of_ble_eq_true rfl) rfl rfl rfl (mth_in13 rfl) hC (by decide +kernel) thc_luck ?_ ?_ rfl ?_ hσ ?_
  · intro v hv
    rcases List.mem_cons.mp hv with rfl | hv
    · trivial
    rcases List.mem_cons.mp hv with rfl | hv
    · exact h1
    rcases List.mem_cons.mp hv with rfl | hv
    · exact h2
    rcases List.mem_cons.mp hv with rfl | hv
    · exact h3
    cases hv
  · intro v hv
    obtain ⟨o_, σ1⟩ := r
    cases o_ with
    | none => cases hv
    | some x =>
      cases hv
      exact ⟨_, rfl⟩
  · intro hv
    obtain ⟨o_, σ1⟩ := r
    cases o_ with
    | none => rfl
    | some x => cases hv
  · intro v hv
    rcases List.mem_cons.mp hv with rfl | hv
    · trivial
    rcases List.mem_cons.mp hv with rfl | hv
    · exact h1
    rcases List.mem_cons.mp hv with rfl | hv
    · exact h2
    rcases List.mem_cons.mp hv with rfl | hv
    · exact h3
    rcases List.mem_cons.mp hv with rfl | hv
    · trivial
    cases hv
theorem cdL_seldom : CdOk 13 cL_seldom kL_seldom := cd_of (n := 16) (by decide +kernel) (fun pc h => by unfold kL_seldom; rw [blt_ge h]; rfl)
set_option maxRecDepth 20000 in
theorem mCw362 : tables_1_7[14]? = some (.codeWith (mY 362) (mBytes 362) (mMax 362) (some .int) [(0, 8, 11, 13)]) := rfl
theorem wr_seldom {l : Launch} (hl : l.stackTraces = false) (HS : StrLaw l) {cs ρ adV : Nat → Nat} {dC : Nat → ClassId} {dI : Nat → Nat → Nat} (hinj : ∀ a b, a < xNA → b < xNA → ρ a = ρ b → a = b) {p1 : Int} (h1 : in32 p1) {σ : xSt} (hσ : InR σ) {r : Option Int × xSt} (hf : f_X_seldom p1 σ = some r) :
    ∀ sz, vx_Met l (mY 362) (Cond.codeWith (mY 362) (mBytes 362) (mMax 362) (some .int) [(0, 8, 11, 13)] :: GW) rmW (PcT cs ρ adV dC dI [vR 0, vI p1, vR 139] σ sz) (QcG cs ρ dC dI (some (vI (wKind (tXL r).1))) (wSt r) (AW ρ sz)) (fun _ _ _ => False) 1 6 (AW ρ sz) := by
  obtain ⟨N, hC⟩ := (c_X_seldom hf).mono (d' := 1000 + 1) (by decide)
  refine wrap_ok hl HS hinj (N := N) (d := 1000) (w := 362) (t := 190) (n1 := 4) (n2 := 3) (P := 4) (E := 8) (Hd := 11) (h2 := 12) (xl := 3) (ix := 46) (pcE := 15) (as := [vR 0, vI p1, vR 139]) (as' := [vR 0, vI p1]) (st1 := [vI p1, vR 0, vI 0, vR 139]) (st' := [vI 0, vR 139]) (ls1 := [some (vR 0), some (vI p1), some (vR 139), none]) (σ := σ) (σ' := (tXL r).2) (σ'' := wSt r) (res := (tXL r).1)
    rfl rfl rfl (by decide) rfl cdL_seldom (tbk_7 (List.mem_of_getElem? mCw362)) lw_clk (by decide) (Or.inr ⟨3, rfl, rfl, rfl⟩) (by decide) rfl rfl (Nat.le_of_ble_eq_true rfl) rfl rfl rfl (mth_in13 rfl) hC (by decide +kernel) thc_seldom ?_ ?_ rfl ?_ hσ ?_
  · intro v hv
    rcases List.mem_cons.mp hv with rfl | hv
    · trivial
    rcases List.mem_cons.mp hv with rfl | hv
    · exact h1
    cases hv
  · intro v hv
    obtain ⟨o_, σ1⟩ := r
    cases o_ with
    | none => cases hv
    | some x =>
      cases hv
      exact ⟨_, rfl⟩
  · intro hv
    obtain ⟨o_, σ1⟩ := r
    cases o_ with
    | none => rfl
    | some x => cases hv
  · intro v hv
    rcases List.mem_cons.mp hv with rfl | hv
    · trivial
    rcases List.mem_cons.mp hv with rfl | hv
    · exact h1
    rcases List.mem_cons.mp hv with rfl | hv
    · trivial
    cases hv
theorem cdL_bestMean : CdOk 13 cL_bestMean kL_bestMean := cd_of (n := 16) (by decide +kernel) (fun pc h => by unfold kL_bestMean; rw [blt_ge h]; rfl)
set_option maxRecDepth 20000 in
theorem mCw363 : tables_1_7[21]? = some (.codeWith (mY 363) (mBytes 363) (mMax 363) (some .int) [(0, 8, 11, 13)]) := rfl
theorem wr_bestMean {l : Launch} (hl : l.stackTraces = false) (HS : StrLaw l) {cs ρ adV : Nat → Nat} {dC : Nat → ClassId} {dI : Nat → Nat → Nat} (hinj : ∀ a b, a < xNA → b < xNA → ρ a = ρ b → a = b) {p1 : Int} (h1 : in32 p1) {σ : xSt} (hσ : InR σ) {r : Option Int × xSt} (hf : f_X_bestMean p1 σ = some r) :
    ∀ sz, vx_Met l (mY 363) (Cond.codeWith (mY 363) (mBytes 363) (mMax 363) (some .int) [(0, 8, 11, 13)] :: GW) rmW (PcT cs ρ adV dC dI [vR 0, vI p1, vR 139] σ sz) (QcG cs ρ dC dI (some (vI (wKind (tXL r).1))) (wSt r) (AW ρ sz)) (fun _ _ _ => False) 1 6 (AW ρ sz) := by
  obtain ⟨N, hC⟩ := (c_X_bestMean hf).mono (d' := 1000 + 1) (by decide)
  refine wrap_ok hl HS hinj (N := N) (d := 1000) (w := 363) (t := 192) (n1 := 4) (n2 := 3) (P := 4) (E := 8) (Hd := 11) (h2 := 12) (xl := 3) (ix := 49) (pcE := 15) (as := [vR 0, vI p1, vR 139]) (as' := [vR 0, vI p1]) (st1 := [vI p1, vR 0, vI 0, vR 139]) (st' := [vI 0, vR 139]) (ls1 := [some (vR 0), some (vI p1), some (vR 139), none]) (σ := σ) (σ' := (tXL r).2) (σ'' := wSt r) (res := (tXL r).1)
    rfl rfl rfl (by decide) rfl cdL_bestMean (tbk_7 (List.mem_of_getElem? mCw363)) lw_clk (by decide) (Or.inr ⟨3, rfl, rfl, rfl⟩) (by decide) rfl rfl (Nat.le_of_ble_eq_true rfl) rfl rfl rfl (mth_in13 rfl) hC (by decide +kernel) thc_bestMean ?_ ?_ rfl ?_ hσ ?_
  · intro v hv
    rcases List.mem_cons.mp hv with rfl | hv
    · trivial
    rcases List.mem_cons.mp hv with rfl | hv
    · exact h1
    cases hv
  · intro v hv
    obtain ⟨o_, σ1⟩ := r
    cases o_ with
    | none => cases hv
    | some x =>
      cases hv
      exact ⟨_, rfl⟩
  · intro hv
    obtain ⟨o_, σ1⟩ := r
    cases o_ with
    | none => rfl
    | some x => cases hv
  · intro v hv
    rcases List.mem_cons.mp hv with rfl | hv
    · trivial
    rcases List.mem_cons.mp hv with rfl | hv
    · exact h1
    rcases List.mem_cons.mp hv with rfl | hv
    · trivial
    cases hv
