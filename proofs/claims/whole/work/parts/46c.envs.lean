/-! printed by wip/whole/mk46.py -/
theorem strEnv_of {s : State} {b : Nat} (hts : ∀ w ∈ lw_tbl, w.before #[Value.ref b] s = true) (hgv : (Jvm.Cond.and given_1 narrow_1).before #[Value.ref b] s = true) : ∃ adK adV : Nat → Nat, ∀ ρ : Nat → Nat, (∀ k, k < 15 → ρ (xstr0 + k) = adK k) → StrEnv ρ adV (fun q => s.heap.size ≤ q) s := by
  have hs := flat_of_before _ hgv
  have hA : ∀ a : Nat, a < s.heap.size → ¬ (fun q : Nat => s.heap.size ≤ q) a := fun a h => Nat.not_le.mpr h
  have hT : ∀ w ∈ tables_1, w.before #[Value.ref b] s = true := fun w hw => hts w (List.mem_append_right _ hw)
  have g1 : ∀ i, i < 15 → _ := fun i hi => List.all_eq_true.mp sN_1 i (List.mem_range.mpr hi)
  simp only [Bool.and_eq_true] at g1
  obtain ⟨adK, adV, hS, hev⟩ := vk_Sof (args := #[Value.ref b]) (s := s) (N := 15) (tm := sTm) (len := xTxt.map List.length) (byt := xByt) (A := fun q => s.heap.size ≤ q)
    (fun i hi => by
      have h1 := Nat.le_of_ble_eq_true (List.all_eq_true.mp sN_4 i (List.mem_range.mpr hi))
      omega)
    (fun i hi => hs _ (nIs_mem (g1 i hi).1.1.1)) (fun i hi => hs _ (nIs_mem (g1 i hi).1.1.2)) (fun i hi => hs _ (nIs_mem (g1 i hi).1.2)) (fun i hi => hs _ (nIs_mem (g1 i hi).2))
    (fun i hi j hj => hs _ (nIs_mem (List.all_eq_true.mp (List.all_eq_true.mp sN_2 i (List.mem_range.mpr hi)) j (List.mem_range.mpr hj))))
    (fun i j hi hj hij => by
      have h1 := List.all_eq_true.mp (List.all_eq_true.mp sN_3 i (List.mem_range.mpr hi)) j (List.mem_range.mpr hj)
      simp only [Bool.or_eq_true] at h1
      rcases h1 with (h1 | h1) | h1
      · exact absurd (Nat.eq_of_beq_eq_true h1) hij
      · exact Or.inl (hs _ (nIs_mem h1))
      · exact Or.inr (hs _ (nIs_mem h1))) hA
  refine ⟨adK, adV, fun ρ hρ => ⟨?_, ?_, ?_, ?_⟩⟩
  · intro own i k hk
    have hmem : ∀ (L : List (Nat × Nat)), kStr own i = xlk L i → (i, k) ∈ L := fun L hL => xlk_mem (hL ▸ hk)
    match own, hk, hmem with
    | 0, hk, _ => exact nomatch hk
    | 1, hk, _ => exact nomatch hk
    | 2, hk, _ => exact nomatch hk
    | 3, hk, hmem =>
      have h1 := hmem [(40, 0)] rfl
      simp only [List.mem_cons, Prod.mk.injEq, List.not_mem_nil, or_false] at h1
      obtain ⟨rfl, rfl⟩ := h1
      · exact ⟨_, vk_R.of (hT _ sRf_0) (by rw [hρ 0 (by decide)]; exact hev 0 (by decide))⟩
    | 4, hk, _ => exact nomatch hk
    | 5, hk, hmem =>
      have h1 := hmem [(48, 1), (64, 2), (66, 3), (72, 4), (74, 5), (76, 6), (78, 7), (80, 8)] rfl
      simp only [List.mem_cons, Prod.mk.injEq, List.not_mem_nil, or_false] at h1
      rcases h1 with ⟨rfl, rfl⟩ | ⟨rfl, rfl⟩ | ⟨rfl, rfl⟩ | ⟨rfl, rfl⟩ | ⟨rfl, rfl⟩ | ⟨rfl, rfl⟩ | ⟨rfl, rfl⟩ | ⟨rfl, rfl⟩
      · exact ⟨_, vk_R.of (hT _ sRf_1) (by rw [hρ 1 (by decide)]; exact hev 1 (by decide))⟩
      · exact ⟨_, vk_R.of (hT _ sRf_2) (by rw [hρ 2 (by decide)]; exact hev 2 (by decide))⟩
      · exact ⟨_, vk_R.of (hT _ sRf_3) (by rw [hρ 3 (by decide)]; exact hev 3 (by decide))⟩
      · exact ⟨_, vk_R.of (hT _ sRf_4) (by rw [hρ 4 (by decide)]; exact hev 4 (by decide))⟩
      · exact ⟨_, vk_R.of (hT _ sRf_5) (by rw [hρ 5 (by decide)]; exact hev 5 (by decide))⟩
      · exact ⟨_, vk_R.of (hT _ sRf_6) (by rw [hρ 6 (by decide)]; exact hev 6 (by decide))⟩
      · exact ⟨_, vk_R.of (hT _ sRf_7) (by rw [hρ 7 (by decide)]; exact hev 7 (by decide))⟩
      · exact ⟨_, vk_R.of (hT _ sRf_8) (by rw [hρ 8 (by decide)]; exact hev 8 (by decide))⟩
    | 6, hk, _ => exact nomatch hk
    | 7, hk, _ => exact nomatch hk
    | 8, hk, hmem =>
      have h1 := hmem [(85, 9), (93, 10), (98, 11), (125, 12)] rfl
      simp only [List.mem_cons, Prod.mk.injEq, List.not_mem_nil, or_false] at h1
      rcases h1 with ⟨rfl, rfl⟩ | ⟨rfl, rfl⟩ | ⟨rfl, rfl⟩ | ⟨rfl, rfl⟩
      · exact ⟨_, vk_R.of (hT _ sRf_9) (by rw [hρ 9 (by decide)]; exact hev 9 (by decide))⟩
      · exact ⟨_, vk_R.of (hT _ sRf_10) (by rw [hρ 10 (by decide)]; exact hev 10 (by decide))⟩
      · exact ⟨_, vk_R.of (hT _ sRf_11) (by rw [hρ 11 (by decide)]; exact hev 11 (by decide))⟩
      · exact ⟨_, vk_R.of (hT _ sRf_12) (by rw [hρ 12 (by decide)]; exact hev 12 (by decide))⟩
    | 9, hk, hmem =>
      have h1 := hmem [(77, 13)] rfl
      simp only [List.mem_cons, Prod.mk.injEq, List.not_mem_nil, or_false] at h1
      obtain ⟨rfl, rfl⟩ := h1
      · exact ⟨_, vk_R.of (hT _ sRf_13) (by rw [hρ 13 (by decide)]; exact hev 13 (by decide))⟩
    | 10, hk, hmem =>
      have h1 := hmem [(98, 14)] rfl
      simp only [List.mem_cons, Prod.mk.injEq, List.not_mem_nil, or_false] at h1
      obtain ⟨rfl, rfl⟩ := h1
      · exact ⟨_, vk_R.of (hT _ sRf_14) (by rw [hρ 14 (by decide)]; exact hev 14 (by decide))⟩
    | 11, hk, _ => exact nomatch hk
    | 12, hk, _ => exact nomatch hk
    | 13, hk, _ => exact nomatch hk
    | n + 14, hk, _ => exact nomatch hk
  · have h1 : vk_S 15 (xTxt.map List.length) xByt adK adV (fun q => s.heap.size ≤ q) s s.heap := hS
    refine ⟨fun i hi => ?_, fun i j hi hj hij => ?_⟩
    · have h2 := h1.1 i hi
      rw [show (fun k => ρ (xstr0 + k)) i = adK i from hρ i hi]
      exact h2
    · exact h1.2 i j hi hj (by
        have e1 : ρ (xstr0 + i) = adK i := hρ i hi
        have e2 : ρ (xstr0 + j) = adK j := hρ j hj
        rw [← e1, ← e2]
        exact hij)
  · exact va_Zof (hT _ (wIs_mem (p := 509) (by decide +kernel))) (hT _ (wIs_mem (p := 14) (by decide +kernel))) (va_eqi (hs _ (nIs_mem sN_5))) hA
  · exact va_Zqof (hT _ (wIs_mem (p := 525) (by decide +kernel))) (hT _ (wIs_mem (p := 16) (by decide +kernel))) (hs _ (nIs_mem sN_6)) hA
theorem thrEnv_of {s : State} {b : Nat} (hts : ∀ w ∈ lw_tbl, w.before #[Value.ref b] s = true) (hgv : (Jvm.Cond.and given_1 narrow_1).before #[Value.ref b] s = true) : ThrEnv (fun q => s.heap.size ≤ q) s := by
  have hs := flat_of_before _ hgv
  have hA : ∀ a : Nat, a < s.heap.size → ¬ (fun q : Nat => s.heap.size ≤ q) a := fun a h => Nat.not_le.mpr h
  have hT : ∀ w ∈ tables_1, w.before #[Value.ref b] s = true := fun w hw => hts w (List.mem_append_right _ hw)
  refine ⟨fun w hw => ?_, ?_, ?_⟩
  · have h1 := Cond.tabsOnly_warm (args' := #[]) (T := s) (State.WarmedH.refl s) w (List.all_eq_true.mp thr_tabs w hw) (hT w (of_decide_eq_true (List.all_eq_true.mp thr_w1 w hw)))
    rwa [setVm_self_] at h1
  · exact vx_Zqof (hT _ (wIs_mem (p := 1299) (by decide +kernel))) (hT _ (wIs_mem (p := 19) (by decide +kernel))) (hs _ (nIs_mem sN_7)) hA
  · exact vx_Zqof (hT _ (wIs_mem (p := 1301) (by decide +kernel))) (hT _ (wIs_mem (p := 19) (by decide +kernel))) (hs _ (nIs_mem sN_8)) hA
theorem nws_of {s : State} {b : Nat} (hts : ∀ w ∈ lw_tbl, w.before #[Value.ref b] s = true) : NWs s := by
  intro w hw hn
  have h1 := hts w (List.mem_append_right _ hw)
  refine va_Nw.of ?_ h1
  cases w <;> first | rfl | exact absurd hn Bool.false_ne_true
theorem ka_of {s : State} {ar : Array Value} {ty : FieldType} (h : (Cond.arrayClass ty).before ar s = true) : ∃ cA : ClassId, ArrOfT s cA ty ∧ s.vm.findClass ("[" ++ ty.toString) = some cA := by
  obtain ⟨cA, kA, comp, h1, h2, h3⟩ := Cond.arrayClass_spec h
  exact ⟨cA, fun n z => ⟨(fun k h => by cases h), kA, h2, comp, h3⟩, h1⟩
theorem va_K_of {s : State} {b : Nat} (hts : ∀ w ∈ lw_tbl, w.before #[Value.ref b] s = true) : ∃ (dC : Nat → ClassId) (dI : Nat → Nat → Nat) (cs : Nat → Nat), va_K (dC, dI) vwCl (wtys cs) s ∧ va_AO "BentPenny$State" s := by
  have hT : ∀ w ∈ tables_1, w.before #[Value.ref b] s = true := fun w hw => hts w (List.mem_append_right _ hw)
  have hG : ∀ w ∈ GW, w.before #[Value.ref b] s = true := fun w hw => hts w (List.mem_filter.mp hw).1
  have hAO : va_AO "BentPenny$State" s := va_AO.of (hT _ bArr_ov)
  have h0 : ∀ ci : Nat, ∃ q : ClassId × (Nat → Nat), ci < 13 → u_Kn s (cnm ci) (TT ci) (nf ci) q.1 q.2 := by
    intro ci
    by_cases h : ci < 13
    · obtain ⟨cC, iS, hk⟩ := u_known (C := cnm ci) (T := TT ci) (N := nf ci) (n := nf ci) hG (uw_in ci h) (by
        have hz : (List.range 13).all (fun ci => gIs (pInst ci) (.instantiable (cnm ci) (nf ci))) = true := by decide +kernel
        exact hG _ (gIs_in (List.all_eq_true.mp hz ci (List.mem_range.mpr h))))
      exact ⟨(cC, iS), fun _ => hk⟩
    · exact ⟨(0, fun _ => 0), fun h2 => absurd h2 h⟩
  obtain ⟨d, hd⟩ := Classical.axiomOfChoice h0
  obtain ⟨c20, a20, n20⟩ := ka_of (hG _ bArr_byte)
  obtain ⟨c21, a21, n21⟩ := ka_of (hG _ bArr_boolean)
  obtain ⟨c22, a22, n22⟩ := ka_of (hG _ bArr_int)
  obtain ⟨c23, a23, n23⟩ := ka_of (hG _ bArr_long)
  obtain ⟨comp, c24, k24, e1, e2, e3, e4, e5⟩ := Cond.arrayOver_spec (hT _ bArr_ov)
  refine ⟨fun k => (d k).1, fun k => (d k).2, fun k => if k = 20 then c20 else if k = 21 then c21 else if k = 22 then c22 else if k = 23 then c23 else c24, ⟨?_, ?_⟩, hAO⟩
  · intro c q hq
    have hc : c < 13 := (List.getElem?_eq_some_iff.mp hq).1
    rw [cl_at c hc] at hq
    cases hq
    exact hd c hc
  · intro k q hq
    match k, hq with
    | 0, hq => cases hq; exact ⟨a20, n20⟩
    | 1, hq => cases hq; exact ⟨a21, n21⟩
    | 2, hq => cases hq; exact ⟨a22, n22⟩
    | 3, hq => cases hq; exact ⟨a23, n23⟩
    | 4, hq => cases hq; exact ⟨fun n z => ⟨(fun k h => by cases h), k24, e3, comp, e4⟩, k24, comp, e3, e4, e1, e5⟩
    | n + 5, hq => exact nomatch hq
