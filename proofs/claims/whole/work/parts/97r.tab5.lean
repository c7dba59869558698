/-! TABLES read in lock-step: the lines -/
theorem line_1 {f : xSt → Option (Int × xSt)} {τ τ' : xSt} {K : Int → xSt → Option (Int × xSt)} {l : Int} (h : mLine f τ = some (1, τ')) : (xbW (f τ) fun r s => f_M_table_94 K l r s) = K (w32 (l + 1)) τ' := by
  unfold mLine at h
  cases hf : f τ with
  | none =>
    rw [hf, xbW_n] at h
    cases h
  | some r =>
    obtain ⟨r, s⟩ := r
    rw [hf, xbW_s] at h
    rw [xbW_s]
    unfold f_M_table_94
    by_cases z : r = 0
    · rw [if_pos z] at h
      exact absurd (Prod.mk.inj (Option.some.inj h)).1 (by decide)
    · rw [if_neg z] at h
      rw [if_neg z, h, xbW_s, if_neg (by decide), xlet_s]
theorem line_0 {f : xSt → Option (Int × xSt)} {τ τ' : xSt} {K : Int → xSt → Option (Int × xSt)} {l : Int} (h : mLine f τ = some (0, τ')) : (xbW (f τ) fun r s => f_M_table_94 K l r s) = some (w32 ((-1) - (τ' 111 11)), τ') := by
  unfold mLine at h
  cases hf : f τ with
  | none =>
    rw [hf, xbW_n] at h
    cases h
  | some r =>
    obtain ⟨r, s⟩ := r
    rw [hf, xbW_s] at h
    rw [xbW_s]
    unfold f_M_table_94
    by_cases z : r = 0
    · rw [if_pos z] at h
      obtain ⟨-, rfl⟩ := Prod.mk.inj (Option.some.inj h)
      rw [if_pos z]
    · rw [if_neg z] at h
      rw [if_neg z, h, xbW_s, if_pos rfl]
def tabEnd (l : Int) (τ : xSt) : Option (Int × xSt) := xlet (upS τ 111 23 (w32 ((τ 111 23) + 1))) fun σ5 => xlet (upS σ5 114 3 (σ5 111 23)) fun σ6 => f_M_table_143 1000000 l 0 σ6
section
variable {σ0 τ0 : xSt} {d : Nat → Int} {n c : Nat}
theorem tab_loop : ∀ (j fu fu2 i T E : Nat) (op : Int) (cs : Nat) (σ τ : xSt), T + E + j = 10 → j < fu → j < fu2 → TbR σ0 τ0 d n c i T E op cs σ τ →
    (∃ (σ' τ' : xSt) (T' E' : Nat) (op' : Int) (cs' : Nat), f_Table_read_17 fu ((T + E : Nat) : Int) σ = some (1, σ') ∧ f_M_table_37 fu2 ((T + E : Nat) : Int) τ = tabEnd ((T' + E' : Nat) : Int) τ' ∧ TbO T' E' op' cs' σ' τ' ∧ σ' 2 9 = 0 ∧ τ' 111 10 = 0 ∧ KpX tbW σ0 σ' ∧ KpM tbV τ0 τ') ∨
    (∃ σ' τ' : xSt, f_Table_read_17 fu ((T + E : Nat) : Int) σ = some (0, σ') ∧ f_M_table_37 fu2 ((T + E : Nat) : Int) τ = some (w32 ((-1) - (τ' 111 11)), τ') ∧ TbB σ0 τ0 σ' τ') := by
  intro j
  induction j with
  | zero =>
    intro fu fu2 i T E op cs σ τ g1 g2 g3 hR
    obtain ⟨-, -, -, -, -, t1, t2, t3, e1, e2, e3, -⟩ := hR
    omega
  | succ j ih =>
    intro fu fu2 i T E op cs σ τ g1 g2 g3 hR
    obtain ⟨fu, rfl⟩ : ∃ n2, fu = n2 + 1 := ⟨fu - 1, by omega⟩
    obtain ⟨fu2, rfl⟩ : ∃ n2, fu2 = n2 + 1 := ⟨fu2 - 1, by omega⟩
    obtain ⟨hL, h9, h10, kX, kM, hO⟩ := id hR
    have hh := hL.hand
    have l500 : ((T + E : Nat) : Int) < 500 := by omega
    have l100 : T + E < 100000 := by omega
    have x17 : f_Table_read_17 (fu + 1) ((T + E : Nat) : Int) σ = (xbR (f_Tokens_isOut σ) fun r4 => if r4 = 0 then (xbW (f_Table_readLine σ) fun r5 σ6 => if r5 = 0 then (some (0, σ6)) else (xlet (w32 (((T + E : Nat) : Int) + 1)) fun x7 => f_Table_read_17 fu x7 σ6)) else (f_Table_read_47 σ)) := by
      rw [f_Table_read_17.eq_2, if_pos l500]
    have m37 : f_M_table_37 (fu2 + 1) ((T + E : Nat) : Int) τ = (if τ 111 7 = 0 then tabEnd ((T + E : Nat) : Int) τ else (xbR (f_M_isWord 0 τ) fun r7 => if r7 = 0 then (xbR (f_M_isWord 2 τ) fun r8 => if r8 = 0 then (xbR (f_M_isWord 3 τ) fun r9 => if r9 = 0 then (xbW (f_M_bad 1 τ) fun r10 σ11 => f_M_table_94 (fun z0 sz => f_M_table_37 fu2 z0 sz) ((T + E : Nat) : Int) r10 σ11) else (xbW (f_M_readEnd τ) fun r12 σ13 => f_M_table_94 (fun z0 sz => f_M_table_37 fu2 z0 sz) ((T + E : Nat) : Int) r12 σ13)) else (xbW (f_M_readWheel τ) fun r14 σ15 => f_M_table_94 (fun z0 sz => f_M_table_37 fu2 z0 sz) ((T + E : Nat) : Int) r14 σ15)) else (xbW (f_M_readCoin τ) fun r16 σ17 => f_M_table_94 (fun z0 sz => f_M_table_37 fu2 z0 sz) ((T + E : Nat) : Int) r16 σ17))) := by
      rw [f_M_table_37.eq_2]
      rfl
    obtain ⟨u, u0, u1, u2⟩ := hh.word (a := 150) (k := 0) (by decide)
    obtain ⟨v, v0, v1, v2⟩ := hh.word (a := 151) (k := 2) (by decide)
    obtain ⟨w, w0, w1, w2⟩ := hh.word (a := 152) (k := 3) (by decide)
    have u2' : f_M_isWord 0 τ = some u := u2
    have v2' : f_M_isWord 2 τ = some v := v2
    have w2' : f_M_isWord 3 τ = some w := w2
    by_cases k0 : σ 2 6 = 0
    · refine Or.inl ⟨σ, τ, T, E, op, cs, ?_, by rw [m37, if_pos (hh.endd.mp k0)], hO, h9, h10, kX, kM⟩
      rw [x17]
      unfold f_Tokens_isOut
      rw [if_pos k0, xbR_s, if_neg (by decide)]
      unfold f_Table_read_47 f_Tokens_isDone
      rw [if_pos k0, xbW_s]
      rfl
    · have k7 : ¬ τ 111 7 = 0 := fun z => k0 (hh.endd.mpr z)
      rw [if_neg k7, u2', xbR_s, v2', xbR_s, w2', xbR_s] at m37
      have word3 : (u = 1 ∨ v = 1 ∨ w = 1) → σ 2 6 = 3 ∧ τ 111 7 = 2 := fun z => by
        rcases z with z | z | z
        · exact ⟨wrd1 (a := 150) (k := 0) (by decide) (by rw [u1, z]), wrdM1 (k := 0) (by decide) (by rw [u2, z])⟩
        · exact ⟨wrd1 (a := 151) (k := 2) (by decide) (by rw [v1, z]), wrdM1 (k := 2) (by decide) (by rw [v2, z])⟩
        · exact ⟨wrd1 (a := 152) (k := 3) (by decide) (by rw [w1, z]), wrdM1 (k := 3) (by decide) (by rw [w2, z])⟩
      by_cases hz : u = 0 ∧ v = 0 ∧ w = 0
      · -- no LINE begins so
        obtain ⟨σ', τ', a1, a2, a3, a4, a5, a6⟩ := hh.fail h9 (p := 1) (fun _ => rfl)
        rw [if_pos hz.1, if_pos hz.2.1, if_pos hz.2.2, a2, xbW_s] at m37
        unfold f_M_table_94 at m37
        rw [if_pos rfl] at m37
        refine Or.inr ⟨σ', τ', ?_, m37, a3, kX.fail a5, kM.bad a6⟩
        rw [x17]
        unfold f_Tokens_isOut
        rw [if_neg k0]
        by_cases k1 : σ 2 6 = 1
        · rw [if_pos k1, xbR_s, if_neg (by decide)]
          unfold f_Table_read_47 f_Tokens_isDone
          rw [if_neg k0, a1, xbW_s, if_pos rfl, xbW_s]
          rfl
        · rw [if_neg k1, xbR_s, if_pos rfl]
          unfold f_Table_readLine
          rw [u1, xbR_s, if_pos hz.1, v1, xbR_s, if_pos hz.2.1, w1, xbR_s, if_pos hz.2.2, a1, xbW_s, xbW_s]
          rfl
      · have s3 : σ 2 6 = 3 ∧ τ 111 7 = 2 := word3 (by omega)
        have k1 : ¬ σ 2 6 = 1 := by
          have := s3.1
          omega
        have x17b : f_Table_read_17 (fu + 1) ((T + E : Nat) : Int) σ = (xbW (f_Table_readLine σ) fun r5 σ6 => if r5 = 0 then (some (0, σ6)) else (f_Table_read_17 fu ((T + E + 1 : Nat) : Int) σ6)) := by
          rw [x17]
          unfold f_Tokens_isOut
          rw [if_neg k0, if_neg k1, xbR_s, if_pos rfl, w32_n1 l100]
          rfl
        rw [x17b]
        clear x17 x17b
        unfold f_Table_readLine
        by_cases hu : u = 0
        · rw [if_pos hu] at m37
          by_cases hv : v = 0
          · have hw : ¬ w = 0 := fun z => hz ⟨hu, hv, z⟩
            rw [if_pos hv, if_neg hw] at m37
            rw [u1, xbR_s, if_pos hu, v1, xbR_s, if_pos hv, w1, xbR_s, if_neg hw]
            rcases end_line hR s3.1 s3.2 with ⟨σ', τ', i', a1, a2, a3⟩ | ⟨σ', τ', a1, a2, a3⟩
            · rw [line_1 a2, w32_n1 l100] at m37
              rw [a1, xbW_s, xbW_s, if_neg (by decide), m37]
              exact ih fu fu2 i' T (E + 1) op cs σ' τ' (by omega) (by omega) (by omega) a3
            · rw [line_0 a2] at m37
              exact Or.inr ⟨σ', τ', by rw [a1, xbW_s, xbW_s]; rfl, m37, a3⟩
          · rw [if_neg hv] at m37
            rw [u1, xbR_s, if_pos hu, v1, xbR_s, if_neg hv]
            rcases wheel_line hR s3.1 s3.2 with ⟨σ', τ', i', a1, a2, a3⟩ | ⟨σ', τ', a1, a2, a3⟩
            · rw [line_1 a2, w32_n1 l100, show T + E + 1 = T + 1 + E by omega] at m37
              rw [a1, xbW_s, xbW_s, if_neg (by decide), m37, show T + E + 1 = T + 1 + E by omega]
              exact ih fu fu2 i' (T + 1) E op cs σ' τ' (by omega) (by omega) (by omega) a3
            · rw [line_0 a2] at m37
              exact Or.inr ⟨σ', τ', by rw [a1, xbW_s, xbW_s]; rfl, m37, a3⟩
        · rw [if_neg hu] at m37
          rw [u1, xbR_s, if_neg hu]
          rcases coin_line hR s3.1 s3.2 with ⟨σ', τ', i', op', cs', a1, a2, a3⟩ | ⟨σ', τ', a1, a2, a3⟩
          · rw [line_1 a2, w32_n1 l100, show T + E + 1 = T + 1 + E by omega] at m37
            rw [a1, xbW_s, xbW_s, if_neg (by decide), m37, show T + E + 1 = T + 1 + E by omega]
            exact ih fu fu2 i' (T + 1) E op' cs' σ' τ' (by omega) (by omega) (by omega) a3
          · rw [line_0 a2] at m37
            exact Or.inr ⟨σ', τ', by rw [a1, xbW_s, xbW_s]; rfl, m37, a3⟩
end
theorem m_tab9 : ∀ (j fu i : Nat) (τ : xSt), i + j = 41 → j < fu → ∃ τ', f_M_table_9 fu (i : Int) τ = f_M_table_37 1000000 0 (upS τ' 114 2 (-1)) ∧ (∀ q, i ≤ q → q < 41 → τ' 114 q = 0) ∧ (∀ q, q < i → τ' 114 q = τ 114 q) ∧ ∀ a q, a ≠ 114 → τ' a q = τ a q := by
  intro j
  induction j with
  | zero =>
    intro fu i τ h1 h2
    obtain ⟨fu, rfl⟩ : ∃ n2, fu = n2 + 1 := ⟨fu - 1, by omega⟩
    refine ⟨τ, ?_, fun q a b => by omega, fun _ _ => rfl, fun _ _ _ => rfl⟩
    rw [f_M_table_9.eq_2, if_neg (by omega), xlet_s]
  | succ j ih =>
    intro fu i τ h1 h2
    obtain ⟨fu, rfl⟩ : ∃ n2, fu = n2 + 1 := ⟨fu - 1, by omega⟩
    have b1 : (i : Int) < 41 := by omega
    have b2 : 0 ≤ (i : Int) ∧ (i : Int) < 41 := by omega
    have b3 : i < 100000 := by omega
    obtain ⟨τ', k1, k2, k3, k4⟩ := ih fu (i + 1) (upS τ 114 i 0) (by omega) (by omega)
    refine ⟨τ', ?_, fun q hq hq2 => ?_, fun q hq => ?_, fun a q ha => by rw [k4 a q ha, upS_ne ha]⟩
    · rw [f_M_table_9.eq_2, if_pos b1, if_pos b2, Int.toNat_natCast, xlet_s, w32_n1 b3, xlet_s]
      exact k1
    · by_cases he : q = i
      · subst he
        rw [k3 _ (by omega), upS_eq]
      · exact k2 q (by omega) hq2
    · rw [k3 q (by omega), upS_nk (by omega)]
theorem m_tab192 {l : Int} : ∀ (j fu i : Nat) (τ : xSt), i + j = 9 → j < fu → ∃ τ', f_M_table_192 fu l (i : Int) τ = some (l, τ') ∧ (∀ q, i ≤ q → q < 9 → τ' 117 q = τ 118 q) ∧ (∀ q, q < i → τ' 117 q = τ 117 q) ∧ ∀ a q, a ≠ 117 → τ' a q = τ a q := by
  intro j
  induction j with
  | zero =>
    intro fu i τ h1 h2
    obtain ⟨fu, rfl⟩ : ∃ n2, fu = n2 + 1 := ⟨fu - 1, by omega⟩
    refine ⟨τ, ?_, fun q a b => by omega, fun _ _ => rfl, fun _ _ _ => rfl⟩
    rw [f_M_table_192.eq_2, if_neg (by omega)]
  | succ j ih =>
    intro fu i τ h1 h2
    obtain ⟨fu, rfl⟩ : ∃ n2, fu = n2 + 1 := ⟨fu - 1, by omega⟩
    have b1 : (i : Int) < 9 := by omega
    have b2 : 0 ≤ (i : Int) ∧ (i : Int) < 9 := by omega
    have b3 : i < 100000 := by omega
    obtain ⟨τ', k1, k2, k3, k4⟩ := ih fu (i + 1) (upS τ 117 i (τ 118 i)) (by omega) (by omega)
    refine ⟨τ', ?_, fun q hq hq2 => ?_, fun q hq => ?_, fun a q ha => by rw [k4 a q ha, upS_ne ha]⟩
    · rw [f_M_table_192.eq_2, if_pos b1, if_pos b2, if_pos b2, Int.toNat_natCast, xlet_s, w32_n1 b3, xlet_s]
      exact k1
    · by_cases he : q = i
      · subst he
        rw [k3 _ (by omega), upS_eq]
      · rw [k2 q (by omega) hq2, upS_ne (by decide)]
    · rw [k3 q (by omega), upS_nk (by omega)]
theorem m_tab170 {l : Int} : ∀ (j fu i : Nat) (τ : xSt), i + j = 924 → j < fu → ∃ τ', f_M_table_170 fu l (i : Int) τ = f_M_table_192 1000000 l 0 τ' ∧ (∀ q, i ≤ q → q < 924 → τ' 113 q = 0) ∧ (∀ q, q < i → τ' 113 q = τ 113 q) ∧ ∀ a q, a ≠ 113 → τ' a q = τ a q := by
  intro j
  induction j with
  | zero =>
    intro fu i τ h1 h2
    obtain ⟨fu, rfl⟩ : ∃ n2, fu = n2 + 1 := ⟨fu - 1, by omega⟩
    refine ⟨τ, ?_, fun q a b => by omega, fun _ _ => rfl, fun _ _ _ => rfl⟩
    rw [f_M_table_170.eq_2, if_neg (by omega)]
  | succ j ih =>
    intro fu i τ h1 h2
    obtain ⟨fu, rfl⟩ : ∃ n2, fu = n2 + 1 := ⟨fu - 1, by omega⟩
    have b1 : (i : Int) < 924 := by omega
    have b2 : 0 ≤ (i : Int) ∧ (i : Int) < 924 := by omega
    have b3 : i < 100000 := by omega
    obtain ⟨τ', k1, k2, k3, k4⟩ := ih fu (i + 1) (upS τ 113 i 0) (by omega) (by omega)
    refine ⟨τ', ?_, fun q hq hq2 => ?_, fun q hq => ?_, fun a q ha => by rw [k4 a q ha, upS_ne ha]⟩
    · rw [f_M_table_170.eq_2, if_pos b1, if_pos b2, Int.toNat_natCast, xlet_s, w32_n1 b3, xlet_s]
      exact k1
    · by_cases he : q = i
      · subst he
        rw [k3 _ (by omega), upS_eq]
      · exact k2 q (by omega) hq2
    · rw [k3 q (by omega), upS_nk (by omega)]
theorem m_tab143 {l : Int} : ∀ (j fu i : Nat) (τ : xSt), i + j = 41 → j < fu → ∃ τ', f_M_table_143 fu l (i : Int) τ = f_M_table_170 1000000 l 41 τ' ∧ (∀ q, i ≤ q → q < 41 → τ' 113 q = τ 114 q) ∧ (∀ q, q < i → τ' 113 q = τ 113 q) ∧ ∀ a q, a ≠ 113 → τ' a q = τ a q := by
  intro j
  induction j with
  | zero =>
    intro fu i τ h1 h2
    obtain ⟨fu, rfl⟩ : ∃ n2, fu = n2 + 1 := ⟨fu - 1, by omega⟩
    refine ⟨τ, ?_, fun q a b => by omega, fun _ _ => rfl, fun _ _ _ => rfl⟩
    rw [f_M_table_143.eq_2, if_neg (by omega)]
  | succ j ih =>
    intro fu i τ h1 h2
    obtain ⟨fu, rfl⟩ : ∃ n2, fu = n2 + 1 := ⟨fu - 1, by omega⟩
    have b1 : (i : Int) < 41 := by omega
    have b2 : 0 ≤ (i : Int) ∧ (i : Int) < 41 := by omega
    have b4 : 0 ≤ (i : Int) ∧ (i : Int) < 924 := by omega
    have b3 : i < 100000 := by omega
    obtain ⟨τ', k1, k2, k3, k4⟩ := ih fu (i + 1) (upS τ 113 i (τ 114 i)) (by omega) (by omega)
    refine ⟨τ', ?_, fun q hq hq2 => ?_, fun q hq => ?_, fun a q ha => by rw [k4 a q ha, upS_ne ha]⟩
    · rw [f_M_table_143.eq_2, if_pos b1, if_pos b2, if_pos b4, Int.toNat_natCast, xlet_s, w32_n1 b3, xlet_s]
      exact k1
    · by_cases he : q = i
      · subst he
        rw [k3 _ (by omega), upS_eq]
      · rw [k2 q (by omega) hq2, upS_ne (by decide)]
    · rw [k3 q (by omega), upS_nk (by omega)]
