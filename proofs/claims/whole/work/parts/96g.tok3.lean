/-! TOKENS: runs, the model -/
def kf (d : Nat → Int) (q m : Nat) : Nat := if kL (d q) = true then cD d q m else cL d q m
theorem kf_s {d : Nat → Int} {q m : Nat} : kf d q (m + 1) = kf d q m + (if kL (d (q + m)) = kL (d q) then 0 else 1) := by
  have eL : cL d q (m + 1) = cL d q m + (if kL (d (q + m)) = true then 1 else 0) := rfl
  have eD : cD d q (m + 1) = cD d q m + (if kL (d (q + m)) = true then 0 else 1) := rfl
  unfold kf
  rw [eL, eD]
  cases h1 : kL (d q) <;> cases h2 : kL (d (q + m)) <;> rfl
def TapM (d : Nat → Int) (n : Nat) (τ : xSt) : Prop := n ≤ 640 ∧ τ 111 3 = (n : Int) ∧ ∀ k : Nat, k < n → τ 112 k = d k ∧ 0 ≤ d k ∧ d k ≤ 255
theorem w64_lv {v c : Int} (h0 : 0 ≤ v) (h1 : v < 1073741824) (h2 : 0 ≤ c) (h3 : c ≤ 255) : w64 (w64 (w64 (27 * v) + c) - 96) = 27 * v + (c - 96) := by
  have e1 : w64 (27 * v) = 27 * v := w64_o (by omega) (by omega)
  have e2 : w64 (27 * v + c) = 27 * v + c := w64_o (by omega) (by omega)
  have e3 : w64 (27 * v + c - 96) = 27 * v + c - 96 := w64_o (by omega) (by omega)
  rw [e1, e2, e3]
  omega
theorem num_o2 {v c : Int} (h0 : 0 ≤ v) (h1 : v < 100) (h2 : 0 ≤ c) (h3 : c ≤ 255) : w32 (w32 (w32 (10 * v) + c) - 48) = 10 * v + (c - 48) := by
  rw [Int.mul_comm 10 v, num_o h0 h1 h2 h3]
  omega
def frG (τ τ' : xSt) : Prop := ∀ a k, (a = 111 → k ≠ 5 ∧ k ≠ 8 ∧ k ≠ 12) → τ' a k = τ a k
theorem m_go278 {τ : xSt} {q m : Nat} {c : Int} (h5 : τ 111 5 = ((q + m : Nat) : Int)) (h6 : τ 111 6 = (q : Int)) (hq : q + m < 100000) {k221 : Int → Int → xSt → Option xSt} {l2 s0 : Int} : ∃ τ', f_M_go_278 k221 l2 c s0 τ = k221 l2 s0 τ' ∧ τ' 111 5 = ((q + (m + 1) : Nat) : Int) ∧ (m < 6 → τ' 111 12 = w64 (w64 (w64 (27 * τ 111 12) + c) - 96)) ∧ (m < 3 → τ' 111 8 = w32 (w32 (w32 (10 * τ 111 8) + c) - 48)) ∧ frG τ τ' := by
  have hb : ((q + m : Nat) : Int) - (q : Int) = (m : Int) := by omega
  have m1 : (m : Int) < 2147483648 := by omega
  have e1 : w32 (((q + m : Nat) : Int) - (q : Int)) = (m : Int) := by
    rw [hb]
    exact w32_o (by omega) m1
  have e2 : w32 (((q + m : Nat) : Int) + 1) = ((q + m + 1 : Nat) : Int) := w32_n1 hq
  have last : ∀ τ1 : xSt, τ1 111 5 = ((q + m : Nat) : Int) → f_M_go_343 k221 l2 s0 τ1 = k221 l2 s0 (upS τ1 111 5 ((q + m + 1 : Nat) : Int)) := fun τ1 z => by
    unfold f_M_go_343
    rw [z, e2, xlet_s]
  have mid : ∀ τ1 : xSt, τ1 111 5 = ((q + m : Nat) : Int) → τ1 111 6 = (q : Int) → ∃ τ2, f_M_go_313 k221 l2 s0 c τ1 = f_M_go_343 k221 l2 s0 τ2 ∧ τ2 111 5 = ((q + m : Nat) : Int) ∧ (m < 3 → τ2 111 8 = w32 (w32 (w32 (10 * τ1 111 8) + c) - 48)) ∧ ∀ a k, (a = 111 → k ≠ 8) → τ2 a k = τ1 a k := fun τ1 z5 z6 => by
    by_cases h3 : (m : Int) < 3
    · refine ⟨upS τ1 111 8 (w32 (w32 (w32 (10 * τ1 111 8) + c) - 48)), ?_, by rw [upS_nk (by decide)]; exact z5, fun _ => upS_eq, fun a k hk => by rw [upS_rd, if_neg (fun z => hk z.1 z.2)]⟩
      unfold f_M_go_313
      rw [z5, z6, e1, if_pos h3, xlet_s]
    · refine ⟨τ1, ?_, z5, fun z => by omega, fun _ _ _ => rfl⟩
      unfold f_M_go_313
      rw [z5, z6, e1, if_neg h3]
  by_cases h6m : (m : Int) < 6
  · obtain ⟨τ2, a1, a2, a3, a4⟩ := mid (upS τ 111 12 (w64 (w64 (w64 (27 * τ 111 12) + c) - 96))) (by rw [upS_nk (by decide)]; exact h5) (by rw [upS_nk (by decide)]; exact h6)
    refine ⟨upS τ2 111 5 ((q + m + 1 : Nat) : Int), ?_, upS_eq, fun _ => by rw [upS_nk (by decide), a4 111 12 (fun _ => by decide), upS_eq], fun z => by rw [upS_nk (by decide), a3 z, upS_nk (by decide)], fun a k hk => by rw [upS_rd, if_neg (fun z => (hk z.1).1 z.2), a4 a k (fun z => (hk z).2.1), upS_rd, if_neg (fun z => (hk z.1).2.2 z.2)]⟩
    unfold f_M_go_278
    rw [h5, h6, e1, if_pos h6m, xlet_s, a1, last τ2 a2]
  · obtain ⟨τ2, a1, a2, a3, a4⟩ := mid τ h5 h6
    refine ⟨upS τ2 111 5 ((q + m + 1 : Nat) : Int), ?_, upS_eq, fun z => by omega, fun z => by rw [upS_nk (by decide), a3 z], fun a k hk => by rw [upS_rd, if_neg (fun z => (hk z.1).1 z.2), a4 a k (fun z => (hk z).2.1)]⟩
    unfold f_M_go_278
    rw [h5, h6, e1, if_neg h6m, a1, last τ2 a2]
/-- what ends a run -/
def goEnd (l2 l3 : Int) (τ : xSt) : Option xSt := if l3 = 0 then (f_M_go_383 τ) else (if l2 = 0 then (f_M_go_380 l2 3 (w32 ((τ 111 5) - (τ 111 6))) τ) else (f_M_go_380 l2 6 (w32 ((τ 111 5) - (τ 111 6))) τ))
theorem m_run {d : Nat → Int} {n q : Nat} : ∀ (j fu m : Nat) (τ : xSt), q + m + j = n → j < fu → TapM d n τ → Alp d q m → τ 111 5 = ((q + m : Nat) : Int) → τ 111 6 = (q : Int) → (cD d q m = 0 → m ≤ 6 → τ 111 12 = lv 27 d q m) → (cL d q m = 0 → m ≤ 3 → τ 111 8 = nv d q m) →
    ∃ (m' : Nat) (τ' : xSt), f_M_go_221 fu (if kL (d q) = true then 1 else 0) (if kf d q m = 0 then 1 else 0) τ = goEnd (if kL (d q) = true then 1 else 0) (if kf d q m' = 0 then 1 else 0) τ' ∧ q + m' = runQ d n j ∧ m ≤ m' ∧ Alp d q m' ∧ τ' 111 5 = ((q + m' : Nat) : Int) ∧ (cD d q m' = 0 → m' ≤ 6 → τ' 111 12 = lv 27 d q m') ∧ (cL d q m' = 0 → m' ≤ 3 → τ' 111 8 = nv d q m') ∧ frG τ τ' := by
  intro j
  induction j with
  | zero =>
    intro fu m τ g1 g2 hT ha h5 h6 hv hw
    obtain ⟨fu, rfl⟩ : ∃ n2, fu = n2 + 1 := ⟨fu - 1, by omega⟩
    refine ⟨m, τ, ?_, by show q + m = n; omega, Nat.le_refl m, ha, h5, hv, hw, fun _ _ _ => rfl⟩
    have ta : f_M_tapeAt (τ 111 5) τ = some 0 := by
      unfold f_M_tapeAt
      rw [h5, hT.2.1, if_neg (by omega)]
    rw [f_M_go_221.eq_2, ta, xbR_s, m_isL, xbR_s, if_neg (show ¬ kL 0 = true by decide), if_pos rfl, xbR_s, m_isD, xbR_s, if_neg (show ¬ kD 0 = true by decide), if_pos rfl]
    rfl
  | succ j ih =>
    intro fu m τ g1 g2 hT ha h5 h6 hv hw
    obtain ⟨fu, rfl⟩ : ∃ n2, fu = n2 + 1 := ⟨fu - 1, by omega⟩
    have hTT := hT
    obtain ⟨h640, hn, hT⟩ := hT
    have c1 : ((q + m : Nat) : Int) < (n : Int) := by omega
    have c3 : 0 ≤ ((q + m : Nat) : Int) ∧ ((q + m : Nat) : Int) < 640 := by omega
    have n1 : q + m < 100000 := by omega
    obtain ⟨t1, t2, t3⟩ := hT (q + m) (by omega)
    have er : runQ d n (j + 1) = if kL (d (q + m)) = true ∨ kD (d (q + m)) = true then runQ d n j else q + m := by
      show (if kL (d (n - (j + 1))) = true ∨ kD (d (n - (j + 1))) = true then runQ d n j else n - (j + 1)) = _
      rw [show n - (j + 1) = q + m by omega]
    have eL : cL d q (m + 1) = cL d q m + (if kL (d (q + m)) = true then 1 else 0) := rfl
    have eD : cD d q (m + 1) = cD d q m + (if kL (d (q + m)) = true then 0 else 1) := rfl
    have ks := kf_s (d := d) (q := q) (m := m)
    have ta : f_M_tapeAt (τ 111 5) τ = some (d (q + m)) := by
      unfold f_M_tapeAt
      rw [h5, hn, if_pos c1, if_pos c3, Int.toNat_natCast, t1]
    by_cases hk : kL (d (q + m)) = true ∨ kD (d (q + m)) = true
    · rw [if_pos hk] at er
      have ha2 : Alp d q (m + 1) := fun i hi => by
        by_cases hz : i = m
        · rw [hz]
          exact hk
        · exact ha i (by omega)
      -- one letter on
      have on : f_M_go_221 (fu + 1) (if kL (d q) = true then 1 else 0) (if kf d q m = 0 then 1 else 0) τ = f_M_go_278 (fun z0 z1 sz => f_M_go_221 fu z0 z1 sz) (if kL (d q) = true then 1 else 0) (d (q + m)) (if kf d q (m + 1) = 0 then 1 else 0) τ := by
        have a249 : f_M_go_249 (fun z0 z1 sz => f_M_go_221 fu z0 z1 sz) (if kL (d q) = true then 1 else 0) (if kf d q m = 0 then 1 else 0) τ = f_M_go_278 (fun z0 z1 sz => f_M_go_221 fu z0 z1 sz) (if kL (d q) = true then 1 else 0) (d (q + m)) (if kf d q (m + 1) = 0 then 1 else 0) τ := by
          unfold f_M_go_249
          rw [h5, if_pos c3, Int.toNat_natCast, t1, xlet_s, m_isL, xbR_s]
          by_cases hf : kf d q m = 0
          · rw [if_pos hf, if_neg (by decide)]
            by_cases he : kL (d (q + m)) = kL (d q)
            · rw [if_pos he] at ks
              rw [he, if_pos rfl, if_pos (show kf d q (m + 1) = 0 by omega)]
            · rw [if_neg he] at ks
              rw [if_neg (show ¬ kf d q (m + 1) = 0 by omega)]
              have hne : ¬ (if kL (d (q + m)) = true then (1 : Int) else 0) = (if kL (d q) = true then (1 : Int) else 0) := by
                revert he
                cases kL (d (q + m)) <;> cases kL (d q) <;> decide
              rw [if_neg hne]
              rfl
          · rw [if_neg hf, if_pos rfl, if_neg (show ¬ kf d q (m + 1) = 0 by omega)]
            rfl
        rw [f_M_go_221.eq_2, ta, xbR_s, m_isL, xbR_s]
        by_cases h1 : kL (d (q + m)) = true
        · rw [if_pos h1, if_neg (by decide), a249]
        · rw [if_neg h1, if_pos rfl, xbR_s, m_isD, xbR_s, if_pos (hk.resolve_left h1), if_neg (by decide), a249]
      obtain ⟨τ1, a1, a2, a3, a4, a5⟩ := m_go278 (c := d (q + m)) (k221 := fun z0 z1 sz => f_M_go_221 fu z0 z1 sz) (l2 := if kL (d q) = true then 1 else 0) (s0 := if kf d q (m + 1) = 0 then 1 else 0) h5 h6 n1
      have hv2 : cD d q (m + 1) = 0 → m + 1 ≤ 6 → τ1 111 12 = lv 27 d q (m + 1) := fun z1 z2 => by
        have z3 : cD d q m = 0 := by omega
        have b := lv_b (b := 27) (d := d) (q := q) (by decide) (by decide) m z3
        have pb := p32 (m := m) (by omega)
        rw [a3 (by omega), hv z3 (by omega)]
        exact w64_lv b.1 (by omega) t2 t3
      have hw2 : cL d q (m + 1) = 0 → m + 1 ≤ 3 → τ1 111 8 = nv d q (m + 1) := fun z1 z2 => by
        have z3 : cL d q m = 0 := by omega
        have b := nv_b (d := d) (q := q) m (cL_d m ha z3)
        have pb := p10 (m := m) (by omega)
        rw [a4 (by omega), hw z3 (by omega)]
        exact num_o2 b.1 (by omega) t2 t3
      have hT1 : TapM d n τ1 := ⟨h640, by rw [a5 111 3 (fun _ => by decide)]; exact hn, fun k hk => by rw [a5 112 k (fun z => absurd z (by decide))]; exact hT k hk⟩
      obtain ⟨m', τ', r1, r2, r3, r4, r5, r6, r7, r8⟩ := ih fu (m + 1) τ1 (by omega) (by omega) hT1 ha2 a2 (by rw [a5 111 6 (fun _ => by decide)]; exact h6) hv2 hw2
      refine ⟨m', τ', ?_, by rw [er]; exact r2, by omega, r4, r5, r6, r7, fun a k hk => by rw [r8 a k hk, a5 a k hk]⟩
      rw [on, a1]
      exact r1
    · rw [if_neg hk] at er
      have h1 : ¬ kL (d (q + m)) = true := fun z => hk (Or.inl z)
      have h2 : ¬ kD (d (q + m)) = true := fun z => hk (Or.inr z)
      refine ⟨m, τ, ?_, er.symm, Nat.le_refl m, ha, h5, hv, hw, fun _ _ _ => rfl⟩
      rw [f_M_go_221.eq_2, ta, xbR_s, m_isL, xbR_s, if_neg h1, if_pos rfl, xbR_s, m_isD, xbR_s, if_neg h2, if_pos rfl]
      rfl
