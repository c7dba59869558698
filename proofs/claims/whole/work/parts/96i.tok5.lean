/-! TOKENS: the model reads one -/
theorem m_go204 {d : Nat → Int} {n q : Nat} {τ : xSt} (hT : TapM d n τ) (h5 : τ 111 5 = (q : Int)) (h6 : τ 111 6 = (q : Int)) (hq : q < n) (hk : kL (d q) = true ∨ kD (d q) = true) :
    ∃ τ', f_M_go_204 (d q) τ = some τ' ∧ τ' 111 5 = (runQ d n (n - q) : Int) ∧
      τ' 111 7 = ms (if cD d q (runQ d n (n - q) - q) = 0 ∧ runQ d n (n - q) - q ≤ 6 then 3 else if cL d q (runQ d n (n - q) - q) = 0 ∧ runQ d n (n - q) - q ≤ 3 then 5 else 2) ∧
      (cD d q (runQ d n (n - q) - q) = 0 ∧ runQ d n (n - q) - q ≤ 6 → τ' 111 12 = lv 27 d q (runQ d n (n - q) - q)) ∧
      (cL d q (runQ d n (n - q) - q) = 0 ∧ runQ d n (n - q) - q ≤ 3 → τ' 111 8 = nv d q (runQ d n (n - q) - q)) ∧ ∀ a k, (a = 111 → k ≠ 5 ∧ k ≠ 7 ∧ k ≠ 8 ∧ k ≠ 12) → τ' a k = τ a k := by
  have hr := runQ_1 hq hk
  have h640 := hT.1
  obtain ⟨m', τ1, r1, r2, r3, r4, r5, r6, r7, r8⟩ := m_run (d := d) (n := n) (q := q) (n - q) 1000000 0 (upS (upS τ 111 12 0) 111 8 0) (by omega) (by omega) ⟨h640, by rw [upS_nk (by decide), upS_nk (by decide)]; exact hT.2.1, fun k hk => by rw [upS_ne (by decide), upS_ne (by decide)]; exact hT.2.2 k hk⟩ (fun i hi => absurd hi (Nat.not_lt_zero _)) (by rw [upS_nk (by decide), upS_nk (by decide), h5, Nat.add_zero]) (by rw [upS_nk (by decide), upS_nk (by decide), h6]) (fun _ _ => by rw [upS_nk (by decide), upS_eq]; rfl) (fun _ _ => by rw [upS_eq]; rfl)
  have hm : runQ d n (n - q) - q = m' := by omega
  have k0 : kf d q 0 = 0 := by
    unfold kf
    split <;> rfl
  rw [if_pos k0] at r1
  have hm1 : 1 ≤ m' := by omega
  obtain ⟨cn1, cn2⟩ := cnt_1 (d := d) (q := q) m' hm1
  have start : f_M_go_204 (d q) τ = goEnd (if kL (d q) = true then 1 else 0) (if kf d q m' = 0 then 1 else 0) τ1 := by
    unfold f_M_go_204
    rw [m_isL, xbR_s, xlet_s, xlet_s, r1]
  have e6 : τ1 111 6 = (q : Int) := by rw [r8 111 6 (fun _ => by decide), upS_nk (by decide), upS_nk (by decide), h6]
  have em : w32 (τ1 111 5 - τ1 111 6) = (m' : Int) := by
    have z1 : ((q + m' : Nat) : Int) - (q : Int) = (m' : Int) := by omega
    have z2 : (m' : Int) < 2147483648 := by omega
    rw [r5, e6, z1]
    exact w32_o (by omega) z2
  have fin : ∀ v : Int, goEnd (if kL (d q) = true then 1 else 0) (if kf d q m' = 0 then 1 else 0) τ1 = some (upS τ1 111 7 v) → v = ms (if cD d q m' = 0 ∧ m' ≤ 6 then 3 else if cL d q m' = 0 ∧ m' ≤ 3 then 5 else 2) → ∃ τ', f_M_go_204 (d q) τ = some τ' ∧ τ' 111 5 = (runQ d n (n - q) : Int) ∧
      τ' 111 7 = ms (if cD d q m' = 0 ∧ m' ≤ 6 then 3 else if cL d q m' = 0 ∧ m' ≤ 3 then 5 else 2) ∧
      (cD d q m' = 0 ∧ m' ≤ 6 → τ' 111 12 = lv 27 d q m') ∧
      (cL d q m' = 0 ∧ m' ≤ 3 → τ' 111 8 = nv d q m') ∧ ∀ a k, (a = 111 → k ≠ 5 ∧ k ≠ 7 ∧ k ≠ 8 ∧ k ≠ 12) → τ' a k = τ a k := fun v hv hms => by
    refine ⟨upS τ1 111 7 v, by rw [start, hv], by rw [upS_nk (by decide), r5, r2], by rw [upS_eq, hms], fun z => by rw [upS_nk (by decide)]; exact r6 z.1 z.2, fun z => by rw [upS_nk (by decide)]; exact r7 z.1 z.2, fun a k hk => ?_⟩
    rw [upS_rd, if_neg (fun z => (hk z.1).2.1 z.2), r8 a k (fun z => ⟨(hk z).1, (hk z).2.2.1, (hk z).2.2.2⟩), upS_rd, if_neg (fun z => (hk z.1).2.2.1 z.2), upS_rd, if_neg (fun z => (hk z.1).2.2.2 z.2)]
  rw [hm]
  unfold goEnd at fin
  rw [em] at fin
  by_cases hl : kL (d q) = true
  · have c1 := cn1 hl
    have kfe : kf d q m' = cD d q m' := if_pos hl
    rw [kfe, if_pos hl] at fin
    by_cases h0 : cD d q m' = 0
    · rw [if_pos h0, if_neg (show ¬ (1 : Int) = 0 by decide), if_neg (show ¬ (1 : Int) = 0 by decide)] at fin
      by_cases h6m : m' ≤ 6
      · refine fin 2 ?_ (by rw [if_pos ⟨h0, h6m⟩]; rfl)
        unfold f_M_go_380 f_M_go_396
        rw [if_neg (by omega), if_neg (by decide), xlet_s]
      · refine fin 1 ?_ (by rw [if_neg (fun z => h6m z.2), if_neg (fun z => by omega)]; rfl)
        unfold f_M_go_380 f_M_go_383 f_M_go_396
        rw [if_pos (by omega), xlet_s]
    · rw [if_neg h0, if_pos rfl] at fin
      refine fin 1 ?_ (by rw [if_neg (fun z => h0 z.1), if_neg (fun z => by omega)]; rfl)
      unfold f_M_go_383 f_M_go_396
      rw [xlet_s]
  · have c1 := cn2 hl
    have kfe : kf d q m' = cL d q m' := if_neg hl
    rw [kfe, if_neg hl] at fin
    by_cases h0 : cL d q m' = 0
    · rw [if_pos h0, if_neg (show ¬ (1 : Int) = 0 by decide), if_pos rfl] at fin
      by_cases h3m : m' ≤ 3
      · refine fin 3 ?_ (by rw [if_neg (fun z => by omega), if_pos ⟨h0, h3m⟩]; rfl)
        unfold f_M_go_380 f_M_go_396
        rw [if_neg (by omega), if_pos rfl, xlet_s]
      · refine fin 1 ?_ (by rw [if_neg (fun z => by omega), if_neg (fun z => h3m z.2)]; rfl)
        unfold f_M_go_380 f_M_go_383 f_M_go_396
        rw [if_pos (by omega), xlet_s]
    · rw [if_neg h0, if_pos rfl] at fin
      refine fin 1 ?_ (by rw [if_neg (fun z => by omega), if_neg (fun z => h0 z.1)]; rfl)
      unfold f_M_go_383 f_M_go_396
      rw [xlet_s]
