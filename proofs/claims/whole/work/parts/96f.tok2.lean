/-! TOKENS: runs, both sides -/
def Alp (d : Nat → Int) (q m : Nat) : Prop := ∀ i : Nat, i < m → kL (d (q + i)) = true ∨ kD (d (q + i)) = true
theorem cL_d {d : Nat → Int} {q : Nat} : ∀ m : Nat, Alp d q m → cL d q m = 0 → ∀ i : Nat, i < m → kD (d (q + i)) = true := by
  intro m
  induction m with
  | zero => exact fun _ _ i hi => absurd hi (Nat.not_lt_zero _)
  | succ m ih =>
    intro h h0 i hi
    have e1 : cL d q (m + 1) = cL d q m + (if kL (d (q + m)) = true then 1 else 0) := rfl
    by_cases hz : i = m
    · subst hz
      rcases h i (by omega) with z | z
      · rw [if_pos z] at e1
        omega
      · exact z
    · exact ih (fun i hi => h i (by omega)) (by omega) i (by omega)
def TapX (d : Nat → Int) (n : Nat) (σ : xSt) : Prop := n ≤ 640 ∧ ∀ k : Nat, k < n → σ 1 k = w8 (d k) ∧ 0 ≤ d k ∧ d k ≤ 255
theorem p32 {m : Nat} (h : m ≤ 5) : (32 : Int) ^ m ≤ 33554432 := by
  have h1 : 32 ^ m ≤ 32 ^ 5 := Nat.pow_le_pow_right (by decide) h
  have h2 : (32 : Nat) ^ 5 = 33554432 := by decide
  have h3 : ((32 ^ m : Nat) : Int) = (32 : Int) ^ m := Int.natCast_pow 32 m
  omega
theorem p10 {m : Nat} (h : m ≤ 2) : (10 : Int) ^ m ≤ 100 := by
  have h1 : 10 ^ m ≤ 10 ^ 2 := Nat.pow_le_pow_right (by decide) h
  have h2 : (10 : Nat) ^ 2 = 100 := by decide
  have h3 : ((10 ^ m : Nat) : Int) = (10 : Int) ^ m := Int.natCast_pow 10 m
  omega
theorem pack_o {v c : Int} (h0 : 0 ≤ v) (h1 : v < 33554432) (h2 : 0 ≤ c) (h3 : c ≤ 255) : w32 (w32 (w32 (w32 (v * 32) + c) - 97) + 1) = 32 * v + (c - 96) := by
  have e1 : w32 (v * 32) = v * 32 := w32_o (by omega) (by omega)
  have e2 : w32 (v * 32 + c) = v * 32 + c := w32_o (by omega) (by omega)
  have e3 : w32 (v * 32 + c - 97) = v * 32 + c - 97 := w32_o (by omega) (by omega)
  have e4 : w32 (v * 32 + c - 97 + 1) = v * 32 + c - 97 + 1 := w32_o (by omega) (by omega)
  rw [e1, e2, e3, e4]
  omega
theorem num_o {v c : Int} (h0 : 0 ≤ v) (h1 : v < 100) (h2 : 0 ≤ c) (h3 : c ≤ 255) : w32 (w32 (w32 (v * 10) + c) - 48) = 10 * v + (c - 48) := by
  have e1 : w32 (v * 10) = v * 10 := w32_o (by omega) (by omega)
  have e2 : w32 (v * 10 + c) = v * 10 + c := w32_o (by omega) (by omega)
  have e3 : w32 (v * 10 + c - 48) = v * 10 + c - 48 := w32_o (by omega) (by omega)
  rw [e1, e2, e3]
  omega
theorem x_run14 {σ : xSt} {d : Nat → Int} {n q : Nat} (hT : TapX d n σ) : ∀ (j fu m : Nat) (v w : Int), q + m + j = n → j < fu → Alp d q m → (cD d q m = 0 → m ≤ 6 → v = lv 32 d q m) → (cL d q m = 0 → m ≤ 3 → w = nv d q m) →
    ∃ (m' : Nat) (v' w' : Int), f_Tokens_readRun_14 fu (q : Int) (n : Int) (cL d q m : Int) (cD d q m : Int) v w ((q + m : Nat) : Int) σ = f_Tokens_readRun_92 (q : Int) (cL d q m' : Int) (cD d q m' : Int) v' w' ((q + m' : Nat) : Int) σ ∧ q + m' = runQ d n j ∧ m ≤ m' ∧ Alp d q m' ∧ (cD d q m' = 0 → m' ≤ 6 → v' = lv 32 d q m') ∧ (cL d q m' = 0 → m' ≤ 3 → w' = nv d q m') := by
  obtain ⟨h640, hT⟩ := hT
  intro j
  induction j with
  | zero =>
    intro fu m v w g1 g2 ha hv hw
    obtain ⟨fu, rfl⟩ : ∃ n2, fu = n2 + 1 := ⟨fu - 1, by omega⟩
    refine ⟨m, v, w, ?_, by show q + m = n; omega, Nat.le_refl m, ha, hv, hw⟩
    rw [f_Tokens_readRun_14.eq_2, if_neg (by omega)]
  | succ j ih =>
    intro fu m v w g1 g2 ha hv hw
    obtain ⟨fu, rfl⟩ : ∃ n2, fu = n2 + 1 := ⟨fu - 1, by omega⟩
    have c1 : ((q + m : Nat) : Int) < (n : Int) := by omega
    have c2 : ((q + m : Nat) : Int) < 640 := by omega
    have c3 : 0 ≤ ((q + m : Nat) : Int) ∧ ((q + m : Nat) : Int) < 640 := by omega
    have n1 : q + m < 100000 := by omega
    obtain ⟨t1, t2, t3⟩ := hT (q + m) (by omega)
    have er : runQ d n (j + 1) = if kL (d (q + m)) = true ∨ kD (d (q + m)) = true then runQ d n j else q + m := by
      show (if kL (d (n - (j + 1))) = true ∨ kD (d (n - (j + 1))) = true then runQ d n j else n - (j + 1)) = _
      rw [show n - (j + 1) = q + m by omega]
    have eL : cL d q (m + 1) = cL d q m + (if kL (d (q + m)) = true then 1 else 0) := rfl
    have eD : cD d q (m + 1) = cD d q m + (if kL (d (q + m)) = true then 0 else 1) := rfl
    have eLD := cLD (d := d) (q := q) m
    have l1 : cL d q m < 100000 := by omega
    have d1 : cD d q m < 100000 := by omega
    have start : f_Tokens_readRun_14 (fu + 1) (q : Int) (n : Int) (cL d q m : Int) (cD d q m : Int) v w ((q + m : Nat) : Int) σ = _ := f_Tokens_readRun_14.eq_2 _ _ _ _ _ _ _ _ _
    rw [if_pos c1, if_pos c2, if_pos c3, Int.toNat_natCast, t1, xlet_s, x_isL, xbR_s, x_isD, xbR_s, kL_8 t2 t3, kD_8 t2 t3] at start
    by_cases hk : kL (d (q + m)) = true
    · have hk2 := kL_i.mp hk
      rw [if_pos hk] at eL eD
      rw [if_pos (Or.inl hk)] at er
      have ew : w8 (d (q + m)) = d (q + m) := by rw [w8_ch t2 t3, if_pos (by omega)]
      rw [if_pos hk, if_neg (by decide), ew] at start
      obtain ⟨m', v', w', r1, r2, r3, r4⟩ := ih fu (m + 1) (w32 (w32 (w32 (w32 (v * 32) + d (q + m)) - 97) + 1)) w (by omega) (by omega) (fun i hi => by
        by_cases hz : i = m
        · rw [hz]
          exact Or.inl hk
        · exact ha i (by omega)) (fun z1 z2 => by
        have b := lv_b (b := 32) (d := d) (q := q) (by decide) (by decide) m (by omega)
        have pb := p32 (m := m) (by omega)
        rw [hv (by omega) (by omega)]
        exact pack_o b.1 (by omega) t2 t3) (fun z1 z2 => by omega)
      refine ⟨m', v', w', ?_, by rw [er]; exact r2, by omega, r4⟩
      rw [← r1, start, w32_n1 l1, xlet_s, eL, eD]
      unfold f_Tokens_pack
      rw [xbR_s, w32_n1 n1, xlet_s]
      rfl
    · rw [if_neg hk] at eL eD start
      rw [if_pos rfl] at start
      by_cases hd : kD (d (q + m)) = true
      · have hd2 := kD_i.mp hd
        rw [if_pos (Or.inr hd)] at er
        have ew : w8 (d (q + m)) = d (q + m) := by rw [w8_ch t2 t3, if_pos (by omega)]
        rw [if_pos hd, if_neg (by decide), ew] at start
        obtain ⟨m', v', w', r1, r2, r3, r4⟩ := ih fu (m + 1) v (w32 (w32 (w32 (w * 10) + d (q + m)) - 48)) (by omega) (by omega) (fun i hi => by
          by_cases hz : i = m
          · rw [hz]
            exact Or.inr hd
          · exact ha i (by omega)) (fun z1 z2 => by omega) (fun z1 z2 => by
          have b := nv_b (d := d) (q := q) m (cL_d m ha (by omega))
          have pb := p10 (m := m) (by omega)
          rw [hw (by omega) (by omega)]
          exact num_o b.1 (by omega) t2 t3)
        refine ⟨m', v', w', ?_, by rw [er]; exact r2, by omega, r4⟩
        rw [← r1, start, w32_n1 d1, xlet_s, eL, eD, xlet_s, w32_n1 n1, xlet_s]
        rfl
      · rw [if_neg (fun z => z.elim hk hd)] at er
        rw [if_neg hd, if_pos rfl] at start
        exact ⟨m, v, w, start, er.symm, Nat.le_refl m, ha, hv, hw⟩
