/-! TOKENS: f_M_go -/
theorem m_go96 {d : Nat → Int} {n q : Nat} {τ : xSt} (hT : TapM d n τ) (h5 : τ 111 5 = (q : Int)) (h6 : τ 111 6 = (q : Int)) (hq : q < n) :
    ∃ τ', f_M_go_96 τ = some τ' ∧ τ' 111 5 = ((if kL (d q) = true ∨ kD (d q) = true then runQ d n (n - q) else q + 1 : Nat) : Int) ∧
      τ' 111 7 = ms (if kL (d q) = true ∨ kD (d q) = true then (if cD d q (runQ d n (n - q) - q) = 0 ∧ runQ d n (n - q) - q ≤ 6 then 3 else if cL d q (runQ d n (n - q) - q) = 0 ∧ runQ d n (n - q) - q ≤ 3 then 5 else 2) else if kS (d q) = true then 6 else 2) ∧
      ((kL (d q) = true ∨ kD (d q) = true) → (cD d q (runQ d n (n - q) - q) = 0 ∧ runQ d n (n - q) - q ≤ 6 → τ' 111 12 = lv 27 d q (runQ d n (n - q) - q)) ∧
      (cL d q (runQ d n (n - q) - q) = 0 ∧ runQ d n (n - q) - q ≤ 3 → τ' 111 8 = nv d q (runQ d n (n - q) - q))) ∧
      (¬ (kL (d q) = true ∨ kD (d q) = true) → τ' 111 9 = d q) ∧ ∀ a k, (a = 111 → k ≠ 5 ∧ k ≠ 7 ∧ k ≠ 8 ∧ k ≠ 9 ∧ k ≠ 12) → τ' a k = τ a k := by
  have h640 := hT.1
  have c1 : (q : Int) < (n : Int) := by omega
  have c3 : 0 ≤ (q : Int) ∧ (q : Int) < 640 := by omega
  have n1 : q < 100000 := by omega
  obtain ⟨t1, t2, t3⟩ := hT.2.2 q hq
  by_cases hk : kL (d q) = true ∨ kD (d q) = true
  · obtain ⟨τ', a1, a2, a3, a4, a5, a6⟩ := m_go204 hT h5 h6 hq hk
    refine ⟨τ', ?_, by rw [if_pos hk]; exact a2, by rw [if_pos hk]; exact a3, fun _ => ⟨a4, a5⟩, fun z => absurd hk z, fun a k z => a6 a k (fun y => ⟨(z y).1, (z y).2.1, (z y).2.2.1, (z y).2.2.2.2⟩)⟩
    unfold f_M_go_96
    rw [h5, hT.2.1, if_pos c1, if_pos c3, Int.toNat_natCast, t1, xlet_s, m_isL, xbR_s]
    by_cases h1 : kL (d q) = true
    · rw [if_pos h1, if_neg (by decide), a1]
    · rw [if_neg h1, if_pos rfl, m_isD, xbR_s, if_pos (hk.resolve_left h1), if_neg (by decide), a1]
  · have h1 : ¬ kL (d q) = true := fun z => hk (Or.inl z)
    have h2 : ¬ kD (d q) = true := fun z => hk (Or.inr z)
    have e185 : ∀ v, f_M_go_185 (d q) v τ = some (upS (upS (upS τ 111 7 v) 111 9 (d q)) 111 5 ((q + 1 : Nat) : Int)) := fun v => by
      unfold f_M_go_185
      rw [xlet_s, xlet_s, upS_nk (by decide), upS_nk (by decide), h5, w32_n1 n1, xlet_s]
    have fin : ∀ v, f_M_go_96 τ = f_M_go_185 (d q) v τ → v = ms (if kS (d q) = true then 6 else 2) → ∃ τ', f_M_go_96 τ = some τ' ∧ τ' 111 5 = ((if kL (d q) = true ∨ kD (d q) = true then runQ d n (n - q) else q + 1 : Nat) : Int) ∧
      τ' 111 7 = ms (if kL (d q) = true ∨ kD (d q) = true then (if cD d q (runQ d n (n - q) - q) = 0 ∧ runQ d n (n - q) - q ≤ 6 then 3 else if cL d q (runQ d n (n - q) - q) = 0 ∧ runQ d n (n - q) - q ≤ 3 then 5 else 2) else if kS (d q) = true then 6 else 2) ∧
      ((kL (d q) = true ∨ kD (d q) = true) → (cD d q (runQ d n (n - q) - q) = 0 ∧ runQ d n (n - q) - q ≤ 6 → τ' 111 12 = lv 27 d q (runQ d n (n - q) - q)) ∧
      (cL d q (runQ d n (n - q) - q) = 0 ∧ runQ d n (n - q) - q ≤ 3 → τ' 111 8 = nv d q (runQ d n (n - q) - q))) ∧
      (¬ (kL (d q) = true ∨ kD (d q) = true) → τ' 111 9 = d q) ∧ ∀ a k, (a = 111 → k ≠ 5 ∧ k ≠ 7 ∧ k ≠ 8 ∧ k ≠ 9 ∧ k ≠ 12) → τ' a k = τ a k := fun v hv hms => by
      refine ⟨upS (upS (upS τ 111 7 v) 111 9 (d q)) 111 5 ((q + 1 : Nat) : Int), by rw [hv, e185], by rw [upS_eq, if_neg hk], by rw [upS_nk (by decide), upS_nk (by decide), upS_eq, if_neg hk, hms], fun z => absurd z hk, fun _ => by rw [upS_nk (by decide), upS_eq], fun a k z => ?_⟩
      rw [upS_rd, if_neg (fun y => (z y.1).1 y.2), upS_rd, if_neg (fun y => (z y.1).2.2.2.1 y.2), upS_rd, if_neg (fun y => (z y.1).2.1 y.2)]
    have st : f_M_go_96 τ = (if d q = 59 then (f_M_go_180 (d q) τ) else (if d q = 58 then (f_M_go_180 (d q) τ) else (if d q = 60 then (f_M_go_180 (d q) τ) else (if d q = 61 then (f_M_go_180 (d q) τ) else (if d q = 62 then (f_M_go_180 (d q) τ) else (if d q = 40 then (f_M_go_180 (d q) τ) else (if d q = 41 then (f_M_go_180 (d q) τ) else (f_M_go_185 (d q) 1 τ)))))))) := by
      unfold f_M_go_96
      rw [h5, hT.2.1, if_pos c1, if_pos c3, Int.toNat_natCast, t1, xlet_s, m_isL, xbR_s, if_neg h1, if_pos rfl, m_isD, xbR_s, if_neg h2, if_pos rfl]
    have e180 : f_M_go_180 (d q) τ = f_M_go_185 (d q) 4 τ := rfl
    by_cases hs : kS (d q) = true
    · refine fin 4 ?_ (by rw [if_pos hs]; rfl)
      rw [st, e180]
      have hs2 := kS_i.mp hs
      (repeat' split) <;> first | rfl | (exfalso; omega)
    · refine fin 1 ?_ (by rw [if_neg hs]; rfl)
      rw [st, e180]
      have hs2 : ¬ (d q = 59 ∨ d q = 58 ∨ d q = 60 ∨ d q = 61 ∨ d q = 62 ∨ d q = 40 ∨ d q = 41) := fun z => hs (kS_i.mpr z)
      (repeat' split) <;> first | rfl | (exfalso; omega)
theorem m_go {d : Nat → Int} {n lim p : Nat} {τ : xSt} (hT : TapM d n τ) (hlim : τ 111 4 = (lim : Int)) (h5 : τ 111 5 = (p : Int)) (hp : p ≤ n) :
    ∃ τ', f_M_go τ = some τ' ∧ τ' 111 5 = (te d n lim p : Int) ∧ τ' 111 6 = (tpl d n lim p : Int) ∧ τ' 111 7 = ms (tk d n lim p) ∧ (tk d n lim p = 3 → τ' 111 12 = lv 27 d (tq d n p) (tm d n p)) ∧ (tk d n lim p = 5 → τ' 111 8 = nv d (tq d n p) (tm d n p)) ∧ (tk d n lim p = 6 → τ' 111 9 = d (tq d n p)) ∧ frH τ τ' := by
  obtain ⟨τ1, a1, a2, a3⟩ := m_skip (n - p) 1000000 p τ (by omega) (by have := hT.1; omega) hT h5
  have a2 : τ1 111 5 = (tq d n p : Int) := a2
  have a1 : f_M_go τ = f_M_go_52 τ1 := a1
  have qb : tq d n p ≤ n := (skQ_b (d := d) (n := n) (n - p) (by omega)).2
  obtain ⟨τ2, b0⟩ : ∃ s, s = upS τ1 111 6 (tq d n p : Int) := ⟨_, rfl⟩
  have b5 : τ2 111 5 = (tq d n p : Int) := by rw [b0, upS_nk (by decide), a2]
  have b6 : τ2 111 6 = (tq d n p : Int) := by rw [b0, upS_eq]
  have b3 : τ2 111 3 = (n : Int) := by rw [b0, upS_nk (by decide), a3 111 3 (fun _ => by decide), hT.2.1]
  have b4 : τ2 111 4 = (lim : Int) := by rw [b0, upS_nk (by decide), a3 111 4 (fun _ => by decide), hlim]
  have bf : ∀ a k, (a = 111 → k ≠ 5 ∧ k ≠ 6) → τ2 a k = τ a k := fun a k z => by rw [b0, upS_rd, if_neg (fun y => (z y.1).2 y.2), a3 a k (fun y => (z y).1)]
  have bT : TapM d n τ2 := ⟨hT.1, b3, fun k hk => by rw [bf 112 k (fun z => absurd z (by decide))]; exact hT.2.2 k hk⟩
  have start : f_M_go τ = (if (lim : Int) < (n : Int) then (if (tq d n p : Int) < (lim : Int) then (f_M_go_96 τ2) else (xlet (upS τ2 111 6 (lim : Int)) fun σ3 => xlet (upS σ3 111 7 1) fun σ4 => some σ4)) else (f_M_go_96 τ2)) := by
    rw [a1]
    unfold f_M_go_52
    rw [a2, ← b0, xlet_s, b4, b3, b6]
  by_cases hL : lim < n ∧ lim ≤ tq d n p
  · have ek : tk d n lim p = 1 := if_pos hL
    have ee : te d n lim p = tq d n p := if_pos hL
    have ep : tpl d n lim p = lim := if_pos hL
    refine ⟨upS (upS τ2 111 6 (lim : Int)) 111 7 1, ?_, by rw [upS_nk (by decide), upS_nk (by decide), b5, ee], by rw [upS_nk (by decide), upS_eq, ep], by rw [upS_eq, ek]; rfl, fun z => by omega, fun z => by omega, fun z => by omega, fun a k z => ?_⟩
    · rw [start, if_pos (by omega), if_neg (by omega), xlet_s, xlet_s]
    · rw [upS_rd, if_neg (fun y => (z y.1).2.2.1 y.2), upS_rd, if_neg (fun y => (z y.1).2.1 y.2), bf a k (fun y => ⟨(z y).1, (z y).2.1⟩)]
  · have ep : tpl d n lim p = tq d n p := if_neg hL
    have st2 : f_M_go τ = f_M_go_96 τ2 := by
      rw [start]
      by_cases h1 : lim < n
      · rw [if_pos (by omega), if_pos (by omega)]
      · rw [if_neg (by omega)]
    by_cases hq : n ≤ tq d n p
    · have ek : tk d n lim p = 0 := (if_neg hL).trans (if_pos hq)
      have ee : te d n lim p = tq d n p := (if_neg hL).trans (if_pos hq)
      refine ⟨upS τ2 111 7 0, ?_, by rw [upS_nk (by decide), b5, ee], by rw [upS_nk (by decide), b6, ep], by rw [upS_eq, ek]; rfl, fun z => by omega, fun z => by omega, fun z => by omega, fun a k z => ?_⟩
      · rw [st2]
        unfold f_M_go_96
        rw [b5, b3, if_neg (by omega), xlet_s]
      · rw [upS_rd, if_neg (fun y => (z y.1).2.2.1 y.2), bf a k (fun y => ⟨(z y).1, (z y).2.1⟩)]
    · obtain ⟨τ', c1, c2, c3, c4, c5, c6⟩ := m_go96 bT b5 b6 (show tq d n p < n by omega)
      have ek : tk d n lim p = (if kL (d (tq d n p)) = true ∨ kD (d (tq d n p)) = true then (if cD d (tq d n p) (tm d n p) = 0 ∧ tm d n p ≤ 6 then 3 else if cL d (tq d n p) (tm d n p) = 0 ∧ tm d n p ≤ 3 then 5 else 2) else if kS (d (tq d n p)) = true then 6 else 2) := (if_neg hL).trans (if_neg hq)
      have ee : te d n lim p = (if kL (d (tq d n p)) = true ∨ kD (d (tq d n p)) = true then runQ d n (n - tq d n p) else tq d n p + 1) := (if_neg hL).trans (if_neg hq)
      refine ⟨τ', by rw [st2, c1], by rw [c2, ee], by rw [c6 111 6 (fun _ => by decide), b6, ep], by rw [c3, ek]; rfl, fun z => ?_, fun z => ?_, fun z => ?_, fun a k z => ?_⟩
      · rw [ek] at z
        by_cases hk : kL (d (tq d n p)) = true ∨ kD (d (tq d n p)) = true
        · rw [if_pos hk] at z
          by_cases h3 : cD d (tq d n p) (tm d n p) = 0 ∧ tm d n p ≤ 6
          · exact (c4 hk).1 h3
          · rw [if_neg h3] at z
            split at z <;> omega
        · rw [if_neg hk] at z
          split at z <;> omega
      · rw [ek] at z
        by_cases hk : kL (d (tq d n p)) = true ∨ kD (d (tq d n p)) = true
        · rw [if_pos hk] at z
          by_cases h3 : cD d (tq d n p) (tm d n p) = 0 ∧ tm d n p ≤ 6
          · rw [if_pos h3] at z
            omega
          · rw [if_neg h3] at z
            by_cases h5 : cL d (tq d n p) (tm d n p) = 0 ∧ tm d n p ≤ 3
            · exact (c4 hk).2 h5
            · rw [if_neg h5] at z
              omega
        · rw [if_neg hk] at z
          split at z <;> omega
      · rw [ek] at z
        by_cases hk : kL (d (tq d n p)) = true ∨ kD (d (tq d n p)) = true
        · rw [if_pos hk] at z
          split at z
          · omega
          · split at z <;> omega
        · exact c5 hk
      · rw [c6 a k (fun y => ⟨(z y).1, (z y).2.2.1, (z y).2.2.2.1, (z y).2.2.2.2.1, (z y).2.2.2.2.2⟩), bf a k (fun y => ⟨(z y).1, (z y).2.1⟩)]
