/-! printed by wip/whole/mk50.py -/
theorem fr_M_whyNot_70 {l2 : Int} {σ : xSt} {r : (Int × xSt)} (h : f_M_whyNot_70 l2 σ = some r) : Fr s_M_whyNot σ r.2 := by
  unfold f_M_whyNot_70 at h
  obtain ⟨σ6, e1, h⟩ := xlet_ex h
  have F1 : Fr s_M_whyNot σ σ6 := Fr.up Fr.rf e1 (rfl)
  obtain ⟨σ7, e2, h⟩ := xlet_ex h
  have F2 : Fr s_M_whyNot σ σ7 := Fr.up F1 e2 (rfl)
  obtain ⟨r8, -, h⟩ := xbR_ex h
  obtain ⟨σ9, e4, h⟩ := xlet_ex h
  have F4 : Fr s_M_whyNot σ σ9 := Fr.up F2 e4 (rfl)
  obtain ⟨r10, -, h⟩ := xbR_ex h
  rcases ite_ex h with ⟨-, h⟩ | ⟨-, h⟩
  · obtain ⟨σ11, e6, h⟩ := xlet_ex h
    have F6 : Fr s_M_whyNot σ σ11 := Fr.up F4 e6 (rfl)
    obtain ⟨σ12, e7, h⟩ := xlet_ex h
    have F7 : Fr s_M_whyNot σ σ12 := Fr.up F6 e7 (rfl)
    cases h
    exact F7
  · cases h
    exact F4
theorem fr_M_whyNot {p1 : Int} {p2 : Int} {σ : xSt} {r : (Int × xSt)} (h : f_M_whyNot p1 p2 σ = some r) : Fr s_M_whyNot σ r.2 := by
  unfold f_M_whyNot at h
  obtain ⟨r1, -, h⟩ := xbR_ex h
  rcases ite_ex h with ⟨-, h⟩ | ⟨-, h⟩
  · cases h
    exact Fr.rf
  · obtain ⟨r2, -, h⟩ := xbR_ex h
    rcases ite_ex h with ⟨-, h⟩ | ⟨-, h⟩
    · cases h
      exact Fr.rf
    · obtain ⟨r3, -, h⟩ := xbR_ex h
      rcases ite_ex h with ⟨-, h⟩ | ⟨-, h⟩
      · obtain ⟨r4, -, h⟩ := xbR_ex h
        rcases ite_ex h with ⟨-, h⟩ | ⟨-, h⟩
        · rcases ite_ex h with ⟨-, h⟩ | ⟨-, h⟩
          · exact Fr.call Fr.rf (fr_M_whyNot_70 h) (subL_rf _)
          · obtain ⟨σ5, e5, h⟩ := xlet_ex h
            have F5 : Fr s_M_whyNot σ σ5 := Fr.up Fr.rf e5 (rfl)
            exact Fr.call F5 (fr_M_whyNot_70 h) (subL_rf _)
        · cases h
          exact Fr.rf
      · cases h
        exact Fr.rf
theorem fr_M_judgeLine_18 {s0 : Int} {σ : xSt} {r : (xSt)} (h : f_M_judgeLine_18 s0 σ = some r) : Fr s_M_judgeLine σ r := by
  unfold f_M_judgeLine_18 at h
  obtain ⟨σ2, e1, h⟩ := xlet_ex h
  have F1 : Fr s_M_judgeLine σ σ2 := Fr.up Fr.rf e1 (rfl)
  cases h
  exact F1
theorem fr_M_judgeLine {p1 : Int} {σ : xSt} {r : (xSt)} (h : f_M_judgeLine p1 σ = some r) : Fr s_M_judgeLine σ r := by
  unfold f_M_judgeLine at h
  obtain ⟨σ1, e1, h⟩ := xlet_ex h
  have F1 : Fr s_M_judgeLine σ σ1 := Fr.up Fr.rf e1 (rfl)
  rcases ite_ex h with ⟨-, h⟩ | ⟨-, h⟩
  · exact Fr.call F1 (fr_M_judgeLine_18 h) (subL_rf _)
  · exact Fr.call F1 (fr_M_judgeLine_18 h) (subL_rf _)
theorem fr_M_readThrow_87 {σ : xSt} {r : (Int × xSt)} (h : f_M_readThrow_87 σ = some r) : Fr s_M_readThrow σ r.2 := by
  unfold f_M_readThrow_87 at h
  obtain ⟨σ16, e1, h⟩ := xlet_ex h
  have F1 : Fr s_M_readThrow σ σ16 := Fr.up Fr.rf e1 (rfl)
  cases h
  exact F1
theorem fr_M_readThrow {σ : xSt} {r : (Int × xSt)} (h : f_M_readThrow σ = some r) : Fr s_M_readThrow σ r.2 := by
  unfold f_M_readThrow at h
  obtain ⟨r1, -, h⟩ := xbR_ex h
  obtain ⟨r2, -, h⟩ := xbR_ex h
  obtain ⟨r3, -, h⟩ := xbR_ex h
  rcases ite_ex h with ⟨-, h⟩ | ⟨-, h⟩
  · obtain ⟨r4, σ5, e4, h⟩ := xbW_ex h
    have F4 : Fr s_M_readThrow σ σ5 := Fr.call Fr.rf (fr_M_bad e4) (rfl)
    cases h
    exact F4
  · rcases ite_ex h with ⟨-, h⟩ | ⟨-, h⟩
    · obtain ⟨r6, σ7, e5, h⟩ := xbW_ex h
      have F5 : Fr s_M_readThrow σ σ7 := Fr.call Fr.rf (fr_M_bad e5) (rfl)
      cases h
      exact F5
    · obtain ⟨σ8, e6, h⟩ := xbR_ex h
      have F6 : Fr s_M_readThrow σ σ8 := Fr.call Fr.rf (fr_M_go e6) (rfl)
      obtain ⟨r9, σ10, e7, h⟩ := xbW_ex h
      have F7 : Fr s_M_readThrow σ σ10 := Fr.call F6 (fr_M_readNumber e7) (rfl)
      rcases ite_ex h with ⟨-, h⟩ | ⟨-, h⟩
      · cases h
        exact F7
      · obtain ⟨r11, σ12, e8, h⟩ := xbW_ex h
        have F8 : Fr s_M_readThrow σ σ12 := Fr.call F7 (fr_M_readSign e8) (rfl)
        rcases ite_ex h with ⟨-, h⟩ | ⟨-, h⟩
        · cases h
          exact F8
        · rcases ite_ex h with ⟨-, h⟩ | ⟨-, h⟩
          · obtain ⟨r13, σ14, e9, h⟩ := xbW_ex h
            have F9 : Fr s_M_readThrow σ σ14 := Fr.call F8 (fr_M_whyNot e9) (rfl)
            obtain ⟨σ15, e10, h⟩ := xbR_ex h
            have F10 : Fr s_M_readThrow σ σ15 := Fr.call F9 (fr_M_judgeLine e10) (rfl)
            exact Fr.call F10 (fr_M_readThrow_87 h) (subL_rf _)
          · exact Fr.call F8 (fr_M_readThrow_87 h) (subL_rf _)
theorem fr_M_readSo_116 {σ : xSt} {r : (Int × xSt)} (h : f_M_readSo_116 σ = some r) : Fr s_M_readSo σ r.2 := by
  unfold f_M_readSo_116 at h
  obtain ⟨σ17, e1, h⟩ := xlet_ex h
  have F1 : Fr s_M_readSo σ σ17 := Fr.up Fr.rf e1 (rfl)
  cases h
  exact F1
theorem fr_M_readSo_113 {s0 : Int} {σ : xSt} {r : (Int × xSt)} (h : f_M_readSo_113 s0 σ = some r) : Fr s_M_readSo σ r.2 := by
  unfold f_M_readSo_113 at h
  obtain ⟨σ16, e1, h⟩ := xbR_ex h
  have F1 : Fr s_M_readSo σ σ16 := Fr.call Fr.rf (fr_M_judgeLine e1) (rfl)
  exact Fr.call F1 (fr_M_readSo_116 h) (subL_rf _)
theorem fr_M_readSo {σ : xSt} {r : (Int × xSt)} (h : f_M_readSo σ = some r) : Fr s_M_readSo σ r.2 := by
  unfold f_M_readSo at h
  obtain ⟨σ1, e1, h⟩ := xbR_ex h
  have F1 : Fr s_M_readSo σ σ1 := Fr.call Fr.rf (fr_M_go e1) (rfl)
  obtain ⟨r2, -, h⟩ := xbR_ex h
  rcases ite_ex h with ⟨-, h⟩ | ⟨-, h⟩
  · obtain ⟨r3, σ4, e3, h⟩ := xbW_ex h
    have F3 : Fr s_M_readSo σ σ4 := Fr.call F1 (fr_M_bad e3) (rfl)
    cases h
    exact F3
  · obtain ⟨r5, -, h⟩ := xbR_ex h
    obtain ⟨r6, -, h⟩ := xbR_ex h
    rcases ite_ex h with ⟨-, h⟩ | ⟨-, h⟩
    · obtain ⟨r7, σ8, e6, h⟩ := xbW_ex h
      have F6 : Fr s_M_readSo σ σ8 := Fr.call F1 (fr_M_bad e6) (rfl)
      cases h
      exact F6
    · obtain ⟨σ9, e7, h⟩ := xbR_ex h
      have F7 : Fr s_M_readSo σ σ9 := Fr.call F1 (fr_M_go e7) (rfl)
      obtain ⟨r10, σ11, e8, h⟩ := xbW_ex h
      have F8 : Fr s_M_readSo σ σ11 := Fr.call F7 (fr_M_readSign e8) (rfl)
      rcases ite_ex h with ⟨-, h⟩ | ⟨-, h⟩
      · cases h
        exact F8
      · rcases ite_ex h with ⟨-, h⟩ | ⟨-, h⟩
        · rcases ite_ex h with ⟨-, h⟩ | ⟨-, h⟩
          · obtain ⟨r12, -, h⟩ := xbR_ex h
            rcases ite_ex h with ⟨-, h⟩ | ⟨-, h⟩
            · obtain ⟨r13, -, h⟩ := xbR_ex h
              rcases ite_ex h with ⟨-, h⟩ | ⟨-, h⟩
              · exact Fr.call F8 (fr_M_readSo_113 h) (subL_rf _)
              · exact Fr.call F8 (fr_M_readSo_113 h) (subL_rf _)
            · exact Fr.call F8 (fr_M_readSo_113 h) (subL_rf _)
          · exact Fr.call F8 (fr_M_readSo_116 h) (subL_rf _)
        · obtain ⟨r14, σ15, e11, h⟩ := xbW_ex h
          have F11 : Fr s_M_readSo σ σ15 := Fr.call F8 (fr_M_bad e11) (rfl)
          cases h
          exact F11
theorem fr_M_evening_161 {s0 : Int} {s1 : Int} {σ : xSt} {r : (Int × xSt)} (h : f_M_evening_161 s0 s1 σ = some r) : Fr s_M_evening σ r.2 := by
  unfold f_M_evening_161 at h
  obtain ⟨-, h⟩ := gu_ex h
  obtain ⟨σ23, e1, h⟩ := xlet_ex h
  have F1 : Fr s_M_evening σ σ23 := Fr.up Fr.rf e1 (rfl)
  cases h
  exact F1
theorem fr_M_evening_63 : ∀ (n : Nat) {σ : xSt} {r : (Int × xSt)}, f_M_evening_63  n σ = some r → Fr s_M_evening σ r.2 := by
  intro n
  induction n with
  | zero => exact fun h => nomatch h
  | succ n ih =>
    intro σ r h
    unfold f_M_evening_63 at h
    rcases ite_ex h with ⟨-, h⟩ | ⟨-, h⟩
    · obtain ⟨σ13, e1, h⟩ := xlet_ex h
      have F1 : Fr s_M_evening σ σ13 := Fr.up Fr.rf e1 (rfl)
      obtain ⟨σ14, e2, h⟩ := xlet_ex h
      have F2 : Fr s_M_evening σ σ14 := Fr.up F1 e2 (rfl)
      obtain ⟨σ15, e3, h⟩ := xlet_ex h
      have F3 : Fr s_M_evening σ σ15 := Fr.up F2 e3 (rfl)
      obtain ⟨r16, -, h⟩ := xbR_ex h
      rcases ite_ex h with ⟨-, h⟩ | ⟨-, h⟩
      · obtain ⟨r17, -, h⟩ := xbR_ex h
        exact Fr.call F3 (fr_M_evening_161 h) (subL_rf _)
      · exact Fr.call F3 (fr_M_evening_161 h) (subL_rf _)
    · obtain ⟨r18, -, h⟩ := xbR_ex h
      rcases ite_ex h with ⟨-, h⟩ | ⟨-, h⟩
      · obtain ⟨r19, σ20, e7, h⟩ := xbW_ex h
        have F7 : Fr s_M_evening σ σ20 := Fr.call Fr.rf (fr_M_readThrow e7) (rfl)
        rcases ite_ex h with ⟨-, h⟩ | ⟨-, h⟩
        · cases h
          exact F7
        · exact Fr.call F7 (ih h) (subL_rf _)
      · obtain ⟨r21, σ22, e8, h⟩ := xbW_ex h
        have F8 : Fr s_M_evening σ σ22 := Fr.call Fr.rf (fr_M_readSo e8) (rfl)
        rcases ite_ex h with ⟨-, h⟩ | ⟨-, h⟩
        · cases h
          exact F8
        · exact Fr.call F8 (ih h) (subL_rf _)
theorem fr_M_evening {σ : xSt} {r : (Int × xSt)} (h : f_M_evening σ = some r) : Fr s_M_evening σ r.2 := by
  unfold f_M_evening at h
  obtain ⟨σ1, e1, h⟩ := xlet_ex h
  have F1 : Fr s_M_evening σ σ1 := Fr.up Fr.rf e1 (rfl)
  obtain ⟨r2, -, h⟩ := xbR_ex h
  rcases ite_ex h with ⟨-, h⟩ | ⟨-, h⟩
  · obtain ⟨r3, σ4, e3, h⟩ := xbW_ex h
    have F3 : Fr s_M_evening σ σ4 := Fr.call F1 (fr_M_gather e3) (rfl)
    cases h
    exact F3
  · obtain ⟨σ5, e4, h⟩ := xbR_ex h
    have F4 : Fr s_M_evening σ σ5 := Fr.call F1 (fr_M_begin e4) (rfl)
    obtain ⟨σ6, e5, h⟩ := xlet_ex h
    have F5 : Fr s_M_evening σ σ6 := Fr.up F4 e5 (rfl)
    obtain ⟨σ7, e6, h⟩ := xlet_ex h
    have F6 : Fr s_M_evening σ σ7 := Fr.up F5 e6 (rfl)
    obtain ⟨σ8, e7, h⟩ := xlet_ex h
    have F7 : Fr s_M_evening σ σ8 := Fr.up F6 e7 (rfl)
    obtain ⟨σ9, e8, h⟩ := xlet_ex h
    have F8 : Fr s_M_evening σ σ9 := Fr.up F7 e8 (rfl)
    obtain ⟨σ10, e9, h⟩ := xlet_ex h
    have F9 : Fr s_M_evening σ σ10 := Fr.up F8 e9 (rfl)
    obtain ⟨σ11, e10, h⟩ := xlet_ex h
    have F10 : Fr s_M_evening σ σ11 := Fr.up F9 e10 (rfl)
    obtain ⟨σ12, e11, h⟩ := xlet_ex h
    have F11 : Fr s_M_evening σ σ12 := Fr.up F10 e11 (rfl)
    exact Fr.call F11 (fr_M_evening_63 _ h) (subL_rf _)
theorem fr_M_judged {p1 : Int} {σ : xSt} {r : (Int × xSt)} (h : f_M_judged p1 σ = some r) : Fr s_M_judged σ r.2 := by
  unfold f_M_judged at h
  obtain ⟨σ1, e1, h⟩ := xlet_ex h
  have F1 : Fr s_M_judged σ σ1 := Fr.up Fr.rf e1 (rfl)
  obtain ⟨r2, -, h⟩ := xbR_ex h
  rcases ite_ex h with ⟨-, h⟩ | ⟨-, h⟩
  · cases h
    exact F1
  · obtain ⟨-, h⟩ := gu_ex h
    cases h
    exact F1
theorem fr_M_takeRow_74 {k19 : (Int → Int → xSt → Option (Int × xSt))} {l3 : Int} {l4 : Int} {s0 : Int} {s1 : Int} (hk19 : ∀ {z0 : Int} {z1 : Int} {σ : xSt} {r : (Int × xSt)}, k19 z0 z1 σ = some r → Fr s_M_takeRow σ r.2) {σ : xSt} {r : (Int × xSt)} (h : f_M_takeRow_74 k19 l3 l4 s0 s1 σ = some r) : Fr s_M_takeRow σ r.2 := by
  unfold f_M_takeRow_74 at h
  obtain ⟨-, h⟩ := gu_ex h
  obtain ⟨σ5, e1, h⟩ := xlet_ex h
  have F1 : Fr s_M_takeRow σ σ5 := Fr.up Fr.rf e1 (rfl)
  obtain ⟨x6, -, h⟩ := xlet_ex h
  exact Fr.call F1 (hk19 h) (rfl)
theorem fr_M_takeRow_51 {k19 : (Int → Int → xSt → Option (Int × xSt))} {l3 : Int} {l4 : Int} (hk19 : ∀ {z0 : Int} {z1 : Int} {σ : xSt} {r : (Int × xSt)}, k19 z0 z1 σ = some r → Fr s_M_takeRow σ r.2) {σ : xSt} {r : (Int × xSt)} (h : f_M_takeRow_51 k19 l3 l4 σ = some r) : Fr s_M_takeRow σ r.2 := by
  unfold f_M_takeRow_51 at h
  obtain ⟨-, h⟩ := gu_ex h
  rcases ite_ex h with ⟨-, h⟩ | ⟨-, h⟩
  · exact Fr.call Fr.rf (fr_M_takeRow_74 hk19 h) (subL_rf _)
  · exact Fr.call Fr.rf (fr_M_takeRow_74 hk19 h) (subL_rf _)
theorem fr_M_takeRow_19 : ∀ (n : Nat) {l3 : Int} {l4 : Int} {σ : xSt} {r : (Int × xSt)}, f_M_takeRow_19  n l3 l4 σ = some r → Fr s_M_takeRow σ r.2 := by
  intro n
  induction n with
  | zero => exact fun h => nomatch h
  | succ n ih =>
    intro l3 l4 σ r h
    unfold f_M_takeRow_19 at h
    rcases ite_ex h with ⟨-, h⟩ | ⟨-, h⟩
    · obtain ⟨-, h⟩ := gu_ex h
      rcases ite_ex h with ⟨-, h⟩ | ⟨-, h⟩
      · exact Fr.call Fr.rf (fr_M_takeRow_51 (fun h => ih h) h) (subL_rf _)
      · obtain ⟨-, h⟩ := gu_ex h
        rcases ite_ex h with ⟨-, h⟩ | ⟨-, h⟩
        · exact Fr.call Fr.rf (fr_M_takeRow_51 (fun h => ih h) h) (subL_rf _)
        · cases h
          exact Fr.rf
    · obtain ⟨σ4, e1, h⟩ := xlet_ex h
      have F1 : Fr s_M_takeRow σ σ4 := Fr.up Fr.rf e1 (rfl)
      cases h
      exact F1
theorem fr_M_takeRow {p1 : Int} {p2 : Int} {σ : xSt} {r : (Int × xSt)} (h : f_M_takeRow p1 p2 σ = some r) : Fr s_M_takeRow σ r.2 := by
  unfold f_M_takeRow at h
  obtain ⟨r1, σ2, e1, h⟩ := xbW_ex h
  have F1 : Fr s_M_takeRow σ σ2 := Fr.call Fr.rf (fr_M_gather e1) (rfl)
  obtain ⟨r3, -, h⟩ := xbR_ex h
  rcases ite_ex h with ⟨-, h⟩ | ⟨-, h⟩
  · cases h
    exact F1
  · exact Fr.call F1 (fr_M_takeRow_19 _ h) (subL_rf _)
theorem fr_M_tellBits_15 : ∀ (n : Nat) {l1 : Int} {σ : xSt} {r : (Int × xSt)}, f_M_tellBits_15  n l1 σ = some r → Fr s_M_tellBits σ r.2 := by
  intro n
  induction n with
  | zero => exact fun h => nomatch h
  | succ n ih =>
    intro l1 σ r h
    unfold f_M_tellBits_15 at h
    rcases ite_ex h with ⟨-, h⟩ | ⟨-, h⟩
    · obtain ⟨-, h⟩ := gu_ex h
      obtain ⟨-, h⟩ := gu_ex h
      obtain ⟨σ3, e1, h⟩ := xlet_ex h
      have F1 : Fr s_M_tellBits σ σ3 := Fr.up Fr.rf e1 (rfl)
      obtain ⟨x4, -, h⟩ := xlet_ex h
      exact Fr.call F1 (ih h) (subL_rf _)
    · cases h
      exact Fr.rf
theorem fr_M_tellBits {σ : xSt} {r : (Int × xSt)} (h : f_M_tellBits σ = some r) : Fr s_M_tellBits σ r.2 := by
  unfold f_M_tellBits at h
  obtain ⟨σ1, e1, h⟩ := xlet_ex h
  have F1 : Fr s_M_tellBits σ σ1 := Fr.up Fr.rf e1 (rfl)
  obtain ⟨σ2, e2, h⟩ := xlet_ex h
  have F2 : Fr s_M_tellBits σ σ2 := Fr.up F1 e2 (rfl)
  exact Fr.call F2 (fr_M_tellBits_15 _ h) (subL_rf _)
theorem fr_M_bit_17 {s0 : Int} {s1 : Int} {σ : xSt} {r : (xSt)} (h : f_M_bit_17 s0 s1 σ = some r) : Fr s_M_bit σ r := by
  unfold f_M_bit_17 at h
  obtain ⟨-, h⟩ := gu_ex h
  obtain ⟨σ1, e1, h⟩ := xlet_ex h
  have F1 : Fr s_M_bit σ σ1 := Fr.up Fr.rf e1 (rfl)
  obtain ⟨σ2, e2, h⟩ := xlet_ex h
  have F2 : Fr s_M_bit σ σ2 := Fr.up F1 e2 (rfl)
  cases h
  exact F2
theorem fr_M_bit {p1 : Int} {σ : xSt} {r : (xSt)} (h : f_M_bit p1 σ = some r) : Fr s_M_bit σ r := by
  unfold f_M_bit at h
  rcases ite_ex h with ⟨-, h⟩ | ⟨-, h⟩
  · exact Fr.call Fr.rf (fr_M_bit_17 h) (subL_rf _)
  · exact Fr.call Fr.rf (fr_M_bit_17 h) (subL_rf _)
theorem fr_M_pairsOf_48 {k2 : (Int → Int → Int → xSt → Option (xSt))} {l1 : Int} {l2 : Int} {l3 : Int} {s0 : Int} (hk2 : ∀ {z0 : Int} {z1 : Int} {z2 : Int} {σ : xSt} {r : (xSt)}, k2 z0 z1 z2 σ = some r → Fr s_M_pairsOf σ r) {σ : xSt} {r : (xSt)} (h : f_M_pairsOf_48 k2 l1 l2 l3 s0 σ = some r) : Fr s_M_pairsOf σ r := by
  unfold f_M_pairsOf_48 at h
  obtain ⟨σ2, e1, h⟩ := xbR_ex h
  have F1 : Fr s_M_pairsOf σ σ2 := Fr.call Fr.rf (fr_M_bit e1) (rfl)
  obtain ⟨x3, -, h⟩ := xlet_ex h
  exact Fr.call F1 (hk2 h) (rfl)
theorem fr_M_pairsOf_2 : ∀ (n : Nat) {l1 : Int} {l2 : Int} {l3 : Int} {σ : xSt} {r : (xSt)}, f_M_pairsOf_2  n l1 l2 l3 σ = some r → Fr s_M_pairsOf σ r := by
  intro n
  induction n with
  | zero => exact fun h => nomatch h
  | succ n ih =>
    intro l1 l2 l3 σ r h
    unfold f_M_pairsOf_2 at h
    rcases ite_ex h with ⟨-, h⟩ | ⟨-, h⟩
    · obtain ⟨-, h⟩ := gu_ex h
      obtain ⟨-, h⟩ := gu_ex h
      rcases ite_ex h with ⟨-, h⟩ | ⟨-, h⟩
      · obtain ⟨x1, -, h⟩ := xlet_ex h
        exact Fr.call Fr.rf (ih h) (subL_rf _)
      · obtain ⟨-, h⟩ := gu_ex h
        rcases ite_ex h with ⟨-, h⟩ | ⟨-, h⟩
        · exact Fr.call Fr.rf (fr_M_pairsOf_48 (fun h => ih h) h) (subL_rf _)
        · exact Fr.call Fr.rf (fr_M_pairsOf_48 (fun h => ih h) h) (subL_rf _)
    · cases h
      exact Fr.rf
theorem fr_M_pairsOf {p1 : Int} {p2 : Int} {σ : xSt} {r : (xSt)} (h : f_M_pairsOf p1 p2 σ = some r) : Fr s_M_pairsOf σ r := by
  unfold f_M_pairsOf at h
  exact Fr.call Fr.rf (fr_M_pairsOf_2 _ h) (subL_rf _)
theorem fr_M_pairs {σ : xSt} {r : (Int × xSt)} (h : f_M_pairs σ = some r) : Fr s_M_pairs σ r.2 := by
  unfold f_M_pairs at h
  obtain ⟨σ1, e1, h⟩ := xlet_ex h
  have F1 : Fr s_M_pairs σ σ1 := Fr.up Fr.rf e1 (rfl)
  obtain ⟨r2, σ3, e2, h⟩ := xbW_ex h
  have F2 : Fr s_M_pairs σ σ3 := Fr.call F1 (fr_M_takeRow e2) (rfl)
  rcases ite_ex h with ⟨-, h⟩ | ⟨-, h⟩
  · cases h
    exact F2
  · obtain ⟨σ4, e3, h⟩ := xbR_ex h
    have F3 : Fr s_M_pairs σ σ4 := Fr.call F2 (fr_M_pairsOf e3) (rfl)
    obtain ⟨r5, σ6, e4, h⟩ := xbW_ex h
    have F4 : Fr s_M_pairs σ σ6 := Fr.call F3 (fr_M_tellBits e4) (rfl)
    cases h
    exact F4
theorem fr_M_spare_66 {q_M_spare : (Int → Int → xSt → Option (xSt))} {k22 : (Int → Int → Int → Int → Int → xSt → Option (xSt))} {l1 : Int} {l2 : Int} {l3 : Int} {l4 : Int} {l5 : Int} {s0 : Int} {s1 : Int} (hq_M_spare : ∀ {z0 : Int} {z1 : Int} {σ : xSt} {r : (xSt)}, q_M_spare z0 z1 σ = some r → Fr s_M_spare σ r) (hk22 : ∀ {z0 : Int} {z1 : Int} {z2 : Int} {z3 : Int} {z4 : Int} {σ : xSt} {r : (xSt)}, k22 z0 z1 z2 z3 z4 σ = some r → Fr s_M_spare σ r) {σ : xSt} {r : (xSt)} (h : f_M_spare_66 q_M_spare k22 l1 l2 l3 l4 l5 s0 s1 σ = some r) : Fr s_M_spare σ r := by
  unfold f_M_spare_66 at h
  obtain ⟨-, h⟩ := gu_ex h
  obtain ⟨σ4, e1, h⟩ := xlet_ex h
  have F1 : Fr s_M_spare σ σ4 := Fr.up Fr.rf e1 (rfl)
  obtain ⟨x5, -, h⟩ := xlet_ex h
  obtain ⟨x6, -, h⟩ := xlet_ex h
  exact Fr.call F1 (hk22 h) (rfl)
theorem fr_M_spare_89 {q_M_spare : (Int → Int → xSt → Option (xSt))} (hq_M_spare : ∀ {z0 : Int} {z1 : Int} {σ : xSt} {r : (xSt)}, q_M_spare z0 z1 σ = some r → Fr s_M_spare σ r) : ∀ (n : Nat) {l1 : Int} {l2 : Int} {l3 : Int} {l4 : Int} {l5 : Int} {σ : xSt} {r : (xSt)}, f_M_spare_89 q_M_spare n l1 l2 l3 l4 l5 σ = some r → Fr s_M_spare σ r := by
  intro n
  induction n with
  | zero => exact fun h => nomatch h
  | succ n ih =>
    intro l1 l2 l3 l4 l5 σ r h
    unfold f_M_spare_89 at h
    rcases ite_ex h with ⟨-, h⟩ | ⟨-, h⟩
    · obtain ⟨-, h⟩ := gu_ex h
      obtain ⟨-, h⟩ := gu_ex h
      rcases ite_ex h with ⟨-, h⟩ | ⟨-, h⟩
      · obtain ⟨-, h⟩ := gu_ex h
        obtain ⟨-, h⟩ := gu_ex h
        obtain ⟨σ7, e1, h⟩ := xlet_ex h
        have F1 : Fr s_M_spare σ σ7 := Fr.up Fr.rf e1 (rfl)
        obtain ⟨x8, -, h⟩ := xlet_ex h
        obtain ⟨x9, -, h⟩ := xlet_ex h
        exact Fr.call F1 (ih h) (subL_rf _)
      · obtain ⟨x10, -, h⟩ := xlet_ex h
        exact Fr.call Fr.rf (ih h) (subL_rf _)
    · obtain ⟨σ11, e2, h⟩ := xbR_ex h
      have F2 : Fr s_M_spare σ σ11 := Fr.call Fr.rf (hq_M_spare e2) (rfl)
      cases h
      exact F2
theorem fr_M_spare_22 {q_M_spare : (Int → Int → xSt → Option (xSt))} (hq_M_spare : ∀ {z0 : Int} {z1 : Int} {σ : xSt} {r : (xSt)}, q_M_spare z0 z1 σ = some r → Fr s_M_spare σ r) : ∀ (n : Nat) {l1 : Int} {l2 : Int} {l3 : Int} {l4 : Int} {l5 : Int} {σ : xSt} {r : (xSt)}, f_M_spare_22 q_M_spare n l1 l2 l3 l4 l5 σ = some r → Fr s_M_spare σ r := by
  intro n
  induction n with
  | zero => exact fun h => nomatch h
  | succ n ih =>
    intro l1 l2 l3 l4 l5 σ r h
    unfold f_M_spare_22 at h
    rcases ite_ex h with ⟨-, h⟩ | ⟨-, h⟩
    · obtain ⟨-, h⟩ := gu_ex h
      obtain ⟨-, h⟩ := gu_ex h
      rcases ite_ex h with ⟨-, h⟩ | ⟨-, h⟩
      · exact Fr.call Fr.rf (fr_M_spare_66 hq_M_spare (fun h => ih h) h) (subL_rf _)
      · exact Fr.call Fr.rf (fr_M_spare_66 hq_M_spare (fun h => ih h) h) (subL_rf _)
    · obtain ⟨σ3, e1, h⟩ := xbR_ex h
      have F1 : Fr s_M_spare σ σ3 := Fr.call Fr.rf (hq_M_spare e1) (rfl)
      exact Fr.call F1 (fr_M_spare_89 hq_M_spare _ h) (subL_rf _)
theorem fr0_M_spare {q_M_spare : (Int → Int → xSt → Option (xSt))} {p1 : Int} {p2 : Int} (hq_M_spare : ∀ {z0 : Int} {z1 : Int} {σ : xSt} {r : (xSt)}, q_M_spare z0 z1 σ = some r → Fr s_M_spare σ r) {σ : xSt} {r : (xSt)} (h : f0_M_spare q_M_spare p1 p2 σ = some r) : Fr s_M_spare σ r := by
  unfold f0_M_spare at h
  rcases ite_ex h with ⟨-, h⟩ | ⟨-, h⟩
  · cases h
    exact Fr.rf
  · obtain ⟨σ1, e1, h⟩ := xbR_ex h
    have F1 : Fr s_M_spare σ σ1 := Fr.call Fr.rf (fr_M_pairsOf e1) (rfl)
    obtain ⟨x2, -, h⟩ := xlet_ex h
    exact Fr.call F1 (fr_M_spare_22 hq_M_spare _ h) (subL_rf _)
theorem frg_M_spare : ∀ n, (∀ {p1 : Int} {p2 : Int} {σ : xSt} {r : (xSt)}, f_M_spare n p1 p2 σ = some r → Fr s_M_spare σ r) := by
  intro n
  induction n with
  | zero => exact (fun h => nomatch h)
  | succ n ih => exact fun h => fr0_M_spare (q_M_spare := (g_M_spare n)) (fun h => ih h) h
theorem fr_M_spare {n : Nat} {p1 : Int} {p2 : Int} {σ : xSt} {r : (xSt)} (h : f_M_spare n p1 p2 σ = some r) : Fr s_M_spare σ r := (frg_M_spare _) h
theorem fr_M_spared {σ : xSt} {r : (Int × xSt)} (h : f_M_spared σ = some r) : Fr s_M_spared σ r.2 := by
  unfold f_M_spared at h
  obtain ⟨σ1, e1, h⟩ := xlet_ex h
  have F1 : Fr s_M_spared σ σ1 := Fr.up Fr.rf e1 (rfl)
  obtain ⟨r2, σ3, e2, h⟩ := xbW_ex h
  have F2 : Fr s_M_spared σ σ3 := Fr.call F1 (fr_M_takeRow e2) (rfl)
  rcases ite_ex h with ⟨-, h⟩ | ⟨-, h⟩
  · cases h
    exact F2
  · obtain ⟨σ4, e3, h⟩ := xbR_ex h
    have F3 : Fr s_M_spared σ σ4 := Fr.call F2 (fr_M_spare e3) (rfl)
    obtain ⟨r5, σ6, e4, h⟩ := xbW_ex h
    have F4 : Fr s_M_spared σ σ6 := Fr.call F3 (fr_M_tellBits e4) (rfl)
    cases h
    exact F4
theorem fr_M_pasts_32 {k23 : (Int → Int → xSt → Option (Int × xSt))} (hk23 : ∀ {z0 : Int} {z1 : Int} {σ : xSt} {r : (Int × xSt)}, k23 z0 z1 σ = some r → Fr s_M_pasts σ r.2) : ∀ (n : Nat) {l1 : Int} {l2 : Int} {l3 : Int} {l4 : Int} {σ : xSt} {r : (Int × xSt)}, f_M_pasts_32 k23 n l1 l2 l3 l4 σ = some r → Fr s_M_pasts σ r.2 := by
  intro n
  induction n with
  | zero => exact fun h => nomatch h
  | succ n ih =>
    intro l1 l2 l3 l4 σ r h
    unfold f_M_pasts_32 at h
    rcases ite_ex h with ⟨-, h⟩ | ⟨-, h⟩
    · obtain ⟨-, h⟩ := gu_ex h
      rcases ite_ex h with ⟨-, h⟩ | ⟨-, h⟩
      · obtain ⟨-, h⟩ := gu_ex h
        obtain ⟨-, h⟩ := gu_ex h
        obtain ⟨σ6, e1, h⟩ := xlet_ex h
        have F1 : Fr s_M_pasts σ σ6 := Fr.up Fr.rf e1 (rfl)
        obtain ⟨x7, -, h⟩ := xlet_ex h
        obtain ⟨x8, -, h⟩ := xlet_ex h
        exact Fr.call F1 (ih h) (subL_rf _)
      · obtain ⟨x9, -, h⟩ := xlet_ex h
        exact Fr.call Fr.rf (ih h) (subL_rf _)
    · obtain ⟨σ10, e2, h⟩ := xbR_ex h
      have F2 : Fr s_M_pasts σ σ10 := Fr.call Fr.rf (fr_M_pairsOf e2) (rfl)
      obtain ⟨x11, -, h⟩ := xlet_ex h
      exact Fr.call F2 (hk23 h) (rfl)
theorem fr_M_pasts_23 : ∀ (n : Nat) {l1 : Int} {l2 : Int} {σ : xSt} {r : (Int × xSt)}, f_M_pasts_23  n l1 l2 σ = some r → Fr s_M_pasts σ r.2 := by
  intro n
  induction n with
  | zero => exact fun h => nomatch h
  | succ n ih =>
    intro l1 l2 σ r h
    unfold f_M_pasts_23 at h
    rcases ite_ex h with ⟨-, h⟩ | ⟨-, h⟩
    · obtain ⟨r4, σ5, e1, h⟩ := xbW_ex h
      have F1 : Fr s_M_pasts σ σ5 := Fr.call Fr.rf (fr_M_tellBits e1) (rfl)
      cases h
      exact F1
    · exact Fr.call Fr.rf (fr_M_pasts_32 (fun h => ih h) _ h) (subL_rf _)
theorem fr_M_pasts {σ : xSt} {r : (Int × xSt)} (h : f_M_pasts σ = some r) : Fr s_M_pasts σ r.2 := by
  unfold f_M_pasts at h
  obtain ⟨σ1, e1, h⟩ := xlet_ex h
  have F1 : Fr s_M_pasts σ σ1 := Fr.up Fr.rf e1 (rfl)
  obtain ⟨r2, σ3, e2, h⟩ := xbW_ex h
  have F2 : Fr s_M_pasts σ σ3 := Fr.call F1 (fr_M_takeRow e2) (rfl)
  rcases ite_ex h with ⟨-, h⟩ | ⟨-, h⟩
  · cases h
    exact F2
  · exact Fr.call F2 (fr_M_pasts_23 _ h) (subL_rf _)
theorem fr_M_counted_126 {k105 : (Int → Int → Int → xSt → Option (Int × xSt))} {l3 : Int} {l6 : Int} {l8 : Int} (hk105 : ∀ {z0 : Int} {z1 : Int} {z2 : Int} {σ : xSt} {r : (Int × xSt)}, k105 z0 z1 z2 σ = some r → Fr s_M_counted σ r.2) {σ : xSt} {r : (Int × xSt)} (h : f_M_counted_126 k105 l3 l6 l8 σ = some r) : Fr s_M_counted σ r.2 := by
  unfold f_M_counted_126 at h
  rcases ite_ex h with ⟨-, h⟩ | ⟨-, h⟩
  · obtain ⟨x13, -, h⟩ := xlet_ex h
    obtain ⟨x14, -, h⟩ := xlet_ex h
    exact Fr.call Fr.rf (hk105 h) (rfl)
  · obtain ⟨x15, -, h⟩ := xlet_ex h
    exact Fr.call Fr.rf (hk105 h) (rfl)
theorem fr_M_counted_179 {k157 : (Int → Int → xSt → Option (Int × xSt))} {l3 : Int} {l9 : Int} {s0 : Int} (hk157 : ∀ {z0 : Int} {z1 : Int} {σ : xSt} {r : (Int × xSt)}, k157 z0 z1 σ = some r → Fr s_M_counted σ r.2) {σ : xSt} {r : (Int × xSt)} (h : f_M_counted_179 k157 l3 l9 s0 σ = some r) : Fr s_M_counted σ r.2 := by
  unfold f_M_counted_179 at h
  obtain ⟨σ18, e1, h⟩ := xbR_ex h
  have F1 : Fr s_M_counted σ σ18 := Fr.call Fr.rf (fr_M_bit e1) (rfl)
  obtain ⟨x19, -, h⟩ := xlet_ex h
  exact Fr.call F1 (hk157 h) (rfl)
theorem fr_M_counted_157 : ∀ (n : Nat) {l3 : Int} {l9 : Int} {σ : xSt} {r : (Int × xSt)}, f_M_counted_157  n l3 l9 σ = some r → Fr s_M_counted σ r.2 := by
  intro n
  induction n with
  | zero => exact fun h => nomatch h
  | succ n ih =>
    intro l3 l9 σ r h
    unfold f_M_counted_157 at h
    rcases ite_ex h with ⟨-, h⟩ | ⟨-, h⟩
    · obtain ⟨r16, σ17, e1, h⟩ := xbW_ex h
      have F1 : Fr s_M_counted σ σ17 := Fr.call Fr.rf (fr_M_tellBits e1) (rfl)
      cases h
      exact F1
    · rcases ite_ex h with ⟨-, h⟩ | ⟨-, h⟩
      · exact Fr.call Fr.rf (fr_M_counted_179 (fun h => ih h) h) (subL_rf _)
      · exact Fr.call Fr.rf (fr_M_counted_179 (fun h => ih h) h) (subL_rf _)
theorem fr_M_counted_105 : ∀ (n : Nat) {l3 : Int} {l6 : Int} {l8 : Int} {σ : xSt} {r : (Int × xSt)}, f_M_counted_105  n l3 l6 l8 σ = some r → Fr s_M_counted σ r.2 := by
  intro n
  induction n with
  | zero => exact fun h => nomatch h
  | succ n ih =>
    intro l3 l6 l8 σ r h
    unfold f_M_counted_105 at h
    rcases ite_ex h with ⟨-, h⟩ | ⟨-, h⟩
    · exact Fr.call Fr.rf (fr_M_counted_126 (fun h => ih h) h) (subL_rf _)
    · rcases ite_ex h with ⟨-, h⟩ | ⟨-, h⟩
      · obtain ⟨x12, -, h⟩ := xlet_ex h
        exact Fr.call Fr.rf (fr_M_counted_157 _ h) (subL_rf _)
      · exact Fr.call Fr.rf (fr_M_counted_126 (fun h => ih h) h) (subL_rf _)
theorem fr_M_counted_52 : ∀ (n : Nat) {l1 : Int} {l2 : Int} {l3 : Int} {l5 : Int} {l6 : Int} {σ : xSt} {r : (Int × xSt)}, f_M_counted_52  n l1 l2 l3 l5 l6 σ = some r → Fr s_M_counted σ r.2 := by
  intro n
  induction n with
  | zero => exact fun h => nomatch h
  | succ n ih =>
    intro l1 l2 l3 l5 l6 σ r h
    unfold f_M_counted_52 at h
    rcases ite_ex h with ⟨-, h⟩ | ⟨-, h⟩
    · obtain ⟨-, h⟩ := gu_ex h
      rcases ite_ex h with ⟨-, h⟩ | ⟨-, h⟩
      · obtain ⟨x6, -, h⟩ := xlet_ex h
        exact Fr.call Fr.rf (ih h) (subL_rf _)
      · obtain ⟨r7, -, h⟩ := xbR_ex h
        obtain ⟨x8, -, h⟩ := xlet_ex h
        obtain ⟨x9, -, h⟩ := xlet_ex h
        obtain ⟨x10, -, h⟩ := xlet_ex h
        exact Fr.call Fr.rf (ih h) (subL_rf _)
    · obtain ⟨r11, -, h⟩ := xbR_ex h
      exact Fr.call Fr.rf (fr_M_counted_105 _ h) (subL_rf _)
theorem fr_M_counted_24 : ∀ (n : Nat) {l1 : Int} {l2 : Int} {l3 : Int} {σ : xSt} {r : (Int × xSt)}, f_M_counted_24  n l1 l2 l3 σ = some r → Fr s_M_counted σ r.2 := by
  intro n
  induction n with
  | zero => exact fun h => nomatch h
  | succ n ih =>
    intro l1 l2 l3 σ r h
    unfold f_M_counted_24 at h
    rcases ite_ex h with ⟨-, h⟩ | ⟨-, h⟩
    · obtain ⟨-, h⟩ := gu_ex h
      obtain ⟨x4, -, h⟩ := xlet_ex h
      obtain ⟨x5, -, h⟩ := xlet_ex h
      exact Fr.call Fr.rf (ih h) (subL_rf _)
    · exact Fr.call Fr.rf (fr_M_counted_52 _ h) (subL_rf _)
theorem fr_M_counted {σ : xSt} {r : (Int × xSt)} (h : f_M_counted σ = some r) : Fr s_M_counted σ r.2 := by
  unfold f_M_counted at h
  obtain ⟨σ1, e1, h⟩ := xlet_ex h
  have F1 : Fr s_M_counted σ σ1 := Fr.up Fr.rf e1 (rfl)
  obtain ⟨r2, σ3, e2, h⟩ := xbW_ex h
  have F2 : Fr s_M_counted σ σ3 := Fr.call F1 (fr_M_takeRow e2) (rfl)
  rcases ite_ex h with ⟨-, h⟩ | ⟨-, h⟩
  · cases h
    exact F2
  · exact Fr.call F2 (fr_M_counted_24 _ h) (subL_rf _)
theorem fr_M_bit_ {p1 : Int} {σ : xSt} {r : (Int × xSt)} (h : f_M_bit_ p1 σ = some r) : Fr s_M_bit_ σ r.2 := by
  unfold f_M_bit_ at h
  obtain ⟨σ1, e1, h⟩ := xlet_ex h
  have F1 : Fr s_M_bit_ σ σ1 := Fr.up Fr.rf e1 (rfl)
  rcases ite_ex h with ⟨-, h⟩ | ⟨-, h⟩
  · cases h
    exact F1
  · rcases ite_ex h with ⟨-, h⟩ | ⟨-, h⟩
    · cases h
      exact F1
    · rcases ite_ex h with ⟨-, h⟩ | ⟨-, h⟩
      · obtain ⟨-, h⟩ := gu_ex h
        cases h
        exact F1
      · cases h
        exact F1
theorem fr_M_countedMean_39 {σ : xSt} {r : (Int × xSt)} (h : f_M_countedMean_39 σ = some r) : Fr s_M_countedMean σ r.2 := by
  unfold f_M_countedMean_39 at h
  obtain ⟨r6, σ7, e1, h⟩ := xbW_ex h
  have F1 : Fr s_M_countedMean σ σ7 := Fr.call Fr.rf (fr_M_refuseLong e1) (rfl)
  cases h
  exact F1
theorem fr_M_countedMean_75 {k55 : (Int → Int → Int → Int → Int → Int → xSt → Option (Int × xSt))} (hk55 : ∀ {z0 : Int} {z1 : Int} {z2 : Int} {z3 : Int} {z4 : Int} {z5 : Int} {σ : xSt} {r : (Int × xSt)}, k55 z0 z1 z2 z3 z4 z5 σ = some r → Fr s_M_countedMean σ r.2) : ∀ (n : Nat) {l1 : Int} {l2 : Int} {l3 : Int} {l4 : Int} {l5 : Int} {l7 : Int} {l8 : Int} {l10 : Int} {l12 : Int} {σ : xSt} {r : (Int × xSt)}, f_M_countedMean_75 k55 n l1 l2 l3 l4 l5 l7 l8 l10 l12 σ = some r → Fr s_M_countedMean σ r.2 := by
  intro n
  induction n with
  | zero => exact fun h => nomatch h
  | succ n ih =>
    intro l1 l2 l3 l4 l5 l7 l8 l10 l12 σ r h
    unfold f_M_countedMean_75 at h
    rcases ite_ex h with ⟨-, h⟩ | ⟨-, h⟩
    · rcases ite_ex h with ⟨-, h⟩ | ⟨-, h⟩
      · obtain ⟨x11, -, h⟩ := xlet_ex h
        obtain ⟨x12, -, h⟩ := xlet_ex h
        exact Fr.call Fr.rf (ih h) (subL_rf _)
      · obtain ⟨x13, -, h⟩ := xlet_ex h
        exact Fr.call Fr.rf (ih h) (subL_rf _)
    · obtain ⟨r14, -, h⟩ := xbR_ex h
      obtain ⟨r15, -, h⟩ := xbR_ex h
      obtain ⟨x16, -, h⟩ := xlet_ex h
      obtain ⟨x17, -, h⟩ := xlet_ex h
      exact Fr.call Fr.rf (hk55 h) (rfl)
theorem fr_M_countedMean_55 : ∀ (n : Nat) {l1 : Int} {l2 : Int} {l3 : Int} {l4 : Int} {l5 : Int} {l7 : Int} {σ : xSt} {r : (Int × xSt)}, f_M_countedMean_55  n l1 l2 l3 l4 l5 l7 σ = some r → Fr s_M_countedMean σ r.2 := by
  intro n
  induction n with
  | zero => exact fun h => nomatch h
  | succ n ih =>
    intro l1 l2 l3 l4 l5 l7 σ r h
    unfold f_M_countedMean_55 at h
    rcases ite_ex h with ⟨-, h⟩ | ⟨-, h⟩
    · obtain ⟨r8, -, h⟩ := xbR_ex h
      obtain ⟨r9, -, h⟩ := xbR_ex h
      cases h
      exact Fr.rf
    · obtain ⟨r10, -, h⟩ := xbR_ex h
      exact Fr.call Fr.rf (fr_M_countedMean_75 (fun h => ih h) _ h) (subL_rf _)
theorem fr_M_countedMean {p1 : Int} {p2 : Int} {p3 : Int} {p4 : Int} {σ : xSt} {r : (Int × xSt)} (h : f_M_countedMean p1 p2 p3 p4 σ = some r) : Fr s_M_countedMean σ r.2 := by
  unfold f_M_countedMean at h
  obtain ⟨r1, -, h⟩ := xbR_ex h
  rcases ite_ex h with ⟨-, h⟩ | ⟨-, h⟩
  · exact Fr.call Fr.rf (fr_M_countedMean_39 h) (subL_rf _)
  · obtain ⟨r2, -, h⟩ := xbR_ex h
    rcases ite_ex h with ⟨-, h⟩ | ⟨-, h⟩
    · exact Fr.call Fr.rf (fr_M_countedMean_39 h) (subL_rf _)
    · obtain ⟨r3, -, h⟩ := xbR_ex h
      rcases ite_ex h with ⟨-, h⟩ | ⟨-, h⟩
      · exact Fr.call Fr.rf (fr_M_countedMean_39 h) (subL_rf _)
      · obtain ⟨r4, -, h⟩ := xbR_ex h
        rcases ite_ex h with ⟨-, h⟩ | ⟨-, h⟩
        · exact Fr.call Fr.rf (fr_M_countedMean_39 h) (subL_rf _)
        · obtain ⟨σ5, e5, h⟩ := xlet_ex h
          have F5 : Fr s_M_countedMean σ σ5 := Fr.up Fr.rf e5 (rfl)
          exact Fr.call F5 (fr_M_countedMean_55 _ h) (subL_rf _)
theorem fr_M_digit {p1 : Int} {σ : xSt} {r : (Int × xSt)} (h : f_M_digit p1 σ = some r) : Fr s_M_digit σ r.2 := by
  unfold f_M_digit at h
  obtain ⟨-, h⟩ := gu_ex h
  obtain ⟨-, h⟩ := gu_ex h
  obtain ⟨σ1, e1, h⟩ := xlet_ex h
  have F1 : Fr s_M_digit σ σ1 := Fr.up Fr.rf e1 (rfl)
  obtain ⟨-, h⟩ := gu_ex h
  obtain ⟨r2, -, h⟩ := xbR_ex h
  rcases ite_ex h with ⟨-, h⟩ | ⟨-, h⟩
  · cases h
    exact F1
  · obtain ⟨-, h⟩ := gu_ex h
    obtain ⟨r3, -, h⟩ := xbR_ex h
    obtain ⟨-, h⟩ := gu_ex h
    obtain ⟨σ4, e4, h⟩ := xlet_ex h
    have F4 : Fr s_M_digit σ σ4 := Fr.up F1 e4 (rfl)
    cases h
    exact F4
theorem fr_M_shared_106 {k82 : (Int → Int → Int → xSt → Option (Int × xSt))} (hk82 : ∀ {z0 : Int} {z1 : Int} {z2 : Int} {σ : xSt} {r : (Int × xSt)}, k82 z0 z1 z2 σ = some r → Fr s_M_shared σ r.2) : ∀ (n : Nat) {l1 : Int} {l3 : Int} {l4 : Int} {l5 : Int} {l6 : Int} {σ : xSt} {r : (Int × xSt)}, f_M_shared_106 k82 n l1 l3 l4 l5 l6 σ = some r → Fr s_M_shared σ r.2 := by
  intro n
  induction n with
  | zero => exact fun h => nomatch h
  | succ n ih =>
    intro l1 l3 l4 l5 l6 σ r h
    unfold f_M_shared_106 at h
    obtain ⟨r13, -, h⟩ := xbR_ex h
    rcases ite_ex h with ⟨-, h⟩ | ⟨-, h⟩
    · obtain ⟨r14, σ15, e2, h⟩ := xbW_ex h
      have F2 : Fr s_M_shared σ σ15 := Fr.call Fr.rf (fr_M_digit e2) (rfl)
      rcases ite_ex h with ⟨-, h⟩ | ⟨-, h⟩
      · obtain ⟨x16, -, h⟩ := xlet_ex h
        exact Fr.call F2 (ih h) (subL_rf _)
      · rcases ite_ex h with ⟨-, h⟩ | ⟨-, h⟩
        · obtain ⟨x17, -, h⟩ := xlet_ex h
          rcases ite_ex h with ⟨-, h⟩ | ⟨-, h⟩
          · obtain ⟨x18, -, h⟩ := xlet_ex h
            exact Fr.call F2 (ih h) (subL_rf _)
          · obtain ⟨x19, -, h⟩ := xlet_ex h
            exact Fr.call F2 (ih h) (subL_rf _)
        · obtain ⟨x20, -, h⟩ := xlet_ex h
          exact Fr.call F2 (ih h) (subL_rf _)
    · rcases ite_ex h with ⟨-, h⟩ | ⟨-, h⟩
      · obtain ⟨x21, -, h⟩ := xlet_ex h
        exact Fr.call Fr.rf (hk82 h) (rfl)
      · obtain ⟨σ22, e3, h⟩ := xlet_ex h
        have F3 : Fr s_M_shared σ σ22 := Fr.up Fr.rf e3 (rfl)
        cases h
        exact F3
theorem fr_M_shared_82 : ∀ (n : Nat) {l1 : Int} {l3 : Int} {l4 : Int} {σ : xSt} {r : (Int × xSt)}, f_M_shared_82  n l1 l3 l4 σ = some r → Fr s_M_shared σ r.2 := by
  intro n
  induction n with
  | zero => exact fun h => nomatch h
  | succ n ih =>
    intro l1 l3 l4 σ r h
    unfold f_M_shared_82 at h
    rcases ite_ex h with ⟨-, h⟩ | ⟨-, h⟩
    · obtain ⟨-, h⟩ := gu_ex h
      obtain ⟨x12, -, h⟩ := xlet_ex h
      exact Fr.call Fr.rf (fr_M_shared_106 (fun h => ih h) _ h) (subL_rf _)
    · cases h
      exact Fr.rf
theorem fr_M_shared_52 : ∀ (n : Nat) {l1 : Int} {l3 : Int} {σ : xSt} {r : (Int × xSt)}, f_M_shared_52  n l1 l3 σ = some r → Fr s_M_shared σ r.2 := by
  intro n
  induction n with
  | zero => exact fun h => nomatch h
  | succ n ih =>
    intro l1 l3 σ r h
    unfold f_M_shared_52 at h
    obtain ⟨r8, -, h⟩ := xbR_ex h
    rcases ite_ex h with ⟨-, h⟩ | ⟨-, h⟩
    · obtain ⟨r9, -, h⟩ := xbR_ex h
      obtain ⟨-, h⟩ := gu_ex h
      obtain ⟨σ10, e3, h⟩ := xlet_ex h
      have F3 : Fr s_M_shared σ σ10 := Fr.up Fr.rf e3 (rfl)
      obtain ⟨x11, -, h⟩ := xlet_ex h
      exact Fr.call F3 (ih h) (subL_rf _)
    · exact Fr.call Fr.rf (fr_M_shared_82 _ h) (subL_rf _)
theorem fr_M_shared {σ : xSt} {r : (Int × xSt)} (h : f_M_shared σ = some r) : Fr s_M_shared σ r.2 := by
  unfold f_M_shared at h
  obtain ⟨σ1, e1, h⟩ := xlet_ex h
  have F1 : Fr s_M_shared σ σ1 := Fr.up Fr.rf e1 (rfl)
  obtain ⟨σ2, e2, h⟩ := xbR_ex h
  have F2 : Fr s_M_shared σ σ2 := Fr.call F1 (fr_M_lay e2) (rfl)
  obtain ⟨r3, σ4, e3, h⟩ := xbW_ex h
  have F3 : Fr s_M_shared σ σ4 := Fr.call F2 (fr_M_takeRow e3) (rfl)
  rcases ite_ex h with ⟨-, h⟩ | ⟨-, h⟩
  · cases h
    exact F3
  · obtain ⟨r5, -, h⟩ := xbR_ex h
    rcases ite_ex h with ⟨-, h⟩ | ⟨-, h⟩
    · cases h
      exact F3
    · obtain ⟨r6, -, h⟩ := xbR_ex h
      rcases ite_ex h with ⟨-, h⟩ | ⟨-, h⟩
      · exact Fr.call F3 (fr_M_shared_52 _ h) (subL_rf _)
      · obtain ⟨σ7, e6, h⟩ := xlet_ex h
        have F6 : Fr s_M_shared σ σ7 := Fr.up F3 e6 (rfl)
        cases h
        exact F6
theorem fr_M_took {σ : xSt} {r : (Int × xSt)} (h : f_M_took σ = some r) : Fr s_M_took σ r.2 := by
  unfold f_M_took at h
  obtain ⟨σ1, e1, h⟩ := xlet_ex h
  have F1 : Fr s_M_took σ σ1 := Fr.up Fr.rf e1 (rfl)
  cases h
  exact F1
theorem fr_M_fewest_20 {σ : xSt} {r : (Int × xSt)} (h : f_M_fewest_20 σ = some r) : Fr s_M_fewest σ r.2 := by
  unfold f_M_fewest_20 at h
  obtain ⟨r6, σ7, e1, h⟩ := xbW_ex h
  have F1 : Fr s_M_fewest σ σ7 := Fr.call Fr.rf (fr_M_refuseLong e1) (rfl)
  cases h
  exact F1
theorem fr_M_fewest_101 {k80 : (Int → Int → Int → xSt → Option (Int × xSt))} (hk80 : ∀ {z0 : Int} {z1 : Int} {z2 : Int} {σ : xSt} {r : (Int × xSt)}, k80 z0 z1 z2 σ = some r → Fr s_M_fewest σ r.2) : ∀ (n : Nat) {l1 : Int} {l2 : Int} {l4 : Int} {l5 : Int} {σ : xSt} {r : (Int × xSt)}, f_M_fewest_101 k80 n l1 l2 l4 l5 σ = some r → Fr s_M_fewest σ r.2 := by
  intro n
  induction n with
  | zero => exact fun h => nomatch h
  | succ n ih =>
    intro l1 l2 l4 l5 σ r h
    unfold f_M_fewest_101 at h
    obtain ⟨r15, -, h⟩ := xbR_ex h
    rcases ite_ex h with ⟨-, h⟩ | ⟨-, h⟩
    · obtain ⟨r16, σ17, e2, h⟩ := xbW_ex h
      have F2 : Fr s_M_fewest σ σ17 := Fr.call Fr.rf (fr_M_digit e2) (rfl)
      obtain ⟨x18, -, h⟩ := xlet_ex h
      exact Fr.call F2 (ih h) (subL_rf _)
    · obtain ⟨x19, -, h⟩ := xlet_ex h
      exact Fr.call Fr.rf (hk80 h) (rfl)
theorem fr_M_fewest_214 {k190 : (Int → Int → Int → Int → Int → xSt → Option (Int × xSt))} (hk190 : ∀ {z0 : Int} {z1 : Int} {z2 : Int} {z3 : Int} {z4 : Int} {σ : xSt} {r : (Int × xSt)}, k190 z0 z1 z2 z3 z4 σ = some r → Fr s_M_fewest σ r.2) : ∀ (n : Nat) {l1 : Int} {l2 : Int} {l5 : Int} {l6 : Int} {l8 : Int} {l9 : Int} {σ : xSt} {r : (Int × xSt)}, f_M_fewest_214 k190 n l1 l2 l5 l6 l8 l9 σ = some r → Fr s_M_fewest σ r.2 := by
  intro n
  induction n with
  | zero => exact fun h => nomatch h
  | succ n ih =>
    intro l1 l2 l5 l6 l8 l9 σ r h
    unfold f_M_fewest_214 at h
    obtain ⟨r28, -, h⟩ := xbR_ex h
    rcases ite_ex h with ⟨-, h⟩ | ⟨-, h⟩
    · obtain ⟨r29, σ30, e2, h⟩ := xbW_ex h
      have F2 : Fr s_M_fewest σ σ30 := Fr.call Fr.rf (fr_M_digit e2) (rfl)
      obtain ⟨x31, -, h⟩ := xlet_ex h
      exact Fr.call F2 (ih h) (subL_rf _)
    · obtain ⟨x32, -, h⟩ := xlet_ex h
      exact Fr.call Fr.rf (hk190 h) (rfl)
theorem fr_M_fewest_190 : ∀ (n : Nat) {l1 : Int} {l2 : Int} {l5 : Int} {l6 : Int} {l8 : Int} {σ : xSt} {r : (Int × xSt)}, f_M_fewest_190  n l1 l2 l5 l6 l8 σ = some r → Fr s_M_fewest σ r.2 := by
  intro n
  induction n with
  | zero => exact fun h => nomatch h
  | succ n ih =>
    intro l1 l2 l5 l6 l8 σ r h
    unfold f_M_fewest_190 at h
    rcases ite_ex h with ⟨-, h⟩ | ⟨-, h⟩
    · obtain ⟨r24, -, h⟩ := xbR_ex h
      obtain ⟨x25, -, h⟩ := xlet_ex h
      exact Fr.call Fr.rf (fr_M_fewest_214 (fun h => ih h) _ h) (subL_rf _)
    · obtain ⟨x26, -, h⟩ := xlet_ex h
      obtain ⟨r27, -, h⟩ := xbR_ex h
      cases h
      exact Fr.rf
theorem fr_M_fewest_160 : ∀ (n : Nat) {l1 : Int} {l2 : Int} {l4 : Int} {l5 : Int} {l6 : Int} {σ : xSt} {r : (Int × xSt)}, f_M_fewest_160  n l1 l2 l4 l5 l6 σ = some r → Fr s_M_fewest σ r.2 := by
  intro n
  induction n with
  | zero => exact fun h => nomatch h
  | succ n ih =>
    intro l1 l2 l4 l5 l6 σ r h
    unfold f_M_fewest_160 at h
    obtain ⟨-, h⟩ := gd_ex h
    rcases ite_ex h with ⟨-, h⟩ | ⟨-, h⟩
    · exact Fr.call Fr.rf (fr_M_fewest_190 _ h) (subL_rf _)
    · obtain ⟨x22, -, h⟩ := xlet_ex h
      obtain ⟨-, h⟩ := gd_ex h
      obtain ⟨x23, -, h⟩ := xlet_ex h
      exact Fr.call Fr.rf (ih h) (subL_rf _)
theorem fr_M_fewest_135 : ∀ (n : Nat) {l1 : Int} {l2 : Int} {l4 : Int} {σ : xSt} {r : (Int × xSt)}, f_M_fewest_135  n l1 l2 l4 σ = some r → Fr s_M_fewest σ r.2 := by
  intro n
  induction n with
  | zero => exact fun h => nomatch h
  | succ n ih =>
    intro l1 l2 l4 σ r h
    unfold f_M_fewest_135 at h
    rcases ite_ex h with ⟨-, h⟩ | ⟨-, h⟩
    · obtain ⟨x20, -, h⟩ := xlet_ex h
      exact Fr.call Fr.rf (ih h) (subL_rf _)
    · obtain ⟨-, h⟩ := gd_ex h
      obtain ⟨x21, -, h⟩ := xlet_ex h
      exact Fr.call Fr.rf (fr_M_fewest_160 _ h) (subL_rf _)
theorem fr_M_fewest_80 : ∀ (n : Nat) {l1 : Int} {l2 : Int} {l4 : Int} {σ : xSt} {r : (Int × xSt)}, f_M_fewest_80  n l1 l2 l4 σ = some r → Fr s_M_fewest σ r.2 := by
  intro n
  induction n with
  | zero => exact fun h => nomatch h
  | succ n ih =>
    intro l1 l2 l4 σ r h
    unfold f_M_fewest_80 at h
    rcases ite_ex h with ⟨-, h⟩ | ⟨-, h⟩
    · obtain ⟨r12, -, h⟩ := xbR_ex h
      obtain ⟨x13, -, h⟩ := xlet_ex h
      exact Fr.call Fr.rf (fr_M_fewest_101 (fun h => ih h) _ h) (subL_rf _)
    · obtain ⟨r14, -, h⟩ := xbR_ex h
      exact Fr.call Fr.rf (fr_M_fewest_135 _ h) (subL_rf _)
theorem fr_M_fewest_50 : ∀ (n : Nat) {l1 : Int} {l2 : Int} {σ : xSt} {r : (Int × xSt)}, f_M_fewest_50  n l1 l2 σ = some r → Fr s_M_fewest σ r.2 := by
  intro n
  induction n with
  | zero => exact fun h => nomatch h
  | succ n ih =>
    intro l1 l2 σ r h
    unfold f_M_fewest_50 at h
    obtain ⟨r8, -, h⟩ := xbR_ex h
    rcases ite_ex h with ⟨-, h⟩ | ⟨-, h⟩
    · obtain ⟨r9, -, h⟩ := xbR_ex h
      obtain ⟨-, h⟩ := gu_ex h
      obtain ⟨σ10, e3, h⟩ := xlet_ex h
      have F3 : Fr s_M_fewest σ σ10 := Fr.up Fr.rf e3 (rfl)
      obtain ⟨x11, -, h⟩ := xlet_ex h
      exact Fr.call F3 (ih h) (subL_rf _)
    · exact Fr.call Fr.rf (fr_M_fewest_80 _ h) (subL_rf _)
theorem fr_M_fewest {p1 : Int} {σ : xSt} {r : (Int × xSt)} (h : f_M_fewest p1 σ = some r) : Fr s_M_fewest σ r.2 := by
  unfold f_M_fewest at h
  obtain ⟨σ1, e1, h⟩ := xbR_ex h
  have F1 : Fr s_M_fewest σ σ1 := Fr.call Fr.rf (fr_M_lay e1) (rfl)
  obtain ⟨r2, -, h⟩ := xbR_ex h
  rcases ite_ex h with ⟨-, h⟩ | ⟨-, h⟩
  · exact Fr.call F1 (fr_M_fewest_20 h) (subL_rf _)
  · obtain ⟨r3, -, h⟩ := xbR_ex h
    rcases ite_ex h with ⟨-, h⟩ | ⟨-, h⟩
    · exact Fr.call F1 (fr_M_fewest_20 h) (subL_rf _)
    · obtain ⟨σ4, e4, h⟩ := xlet_ex h
      have F4 : Fr s_M_fewest σ σ4 := Fr.up F1 e4 (rfl)
      obtain ⟨r5, -, h⟩ := xbR_ex h
      rcases ite_ex h with ⟨-, h⟩ | ⟨-, h⟩
      · exact Fr.call F4 (fr_M_fewest_50 _ h) (subL_rf _)
      · rcases ite_ex h with ⟨-, h⟩ | ⟨-, h⟩
        · cases h
          exact F4
        · cases h
          exact F4
theorem fr_M_layNear_95 {k82 : (Int → xSt → Option (xSt))} (hk82 : ∀ {z0 : Int} {σ : xSt} {r : (xSt)}, k82 z0 σ = some r → Fr s_M_layNear σ r) : ∀ (n : Nat) {l4 : Int} {l6 : Int} {l7 : Int} {σ : xSt} {r : (xSt)}, f_M_layNear_95 k82 n l4 l6 l7 σ = some r → Fr s_M_layNear σ r := by
  intro n
  induction n with
  | zero => exact fun h => nomatch h
  | succ n ih =>
    intro l4 l6 l7 σ r h
    unfold f_M_layNear_95 at h
    obtain ⟨r11, -, h⟩ := xbR_ex h
    rcases ite_ex h with ⟨-, h⟩ | ⟨-, h⟩
    · obtain ⟨-, h⟩ := gu_ex h
      obtain ⟨-, h⟩ := gu_ex h
      rcases ite_ex h with ⟨-, h⟩ | ⟨-, h⟩
      · obtain ⟨x12, -, h⟩ := xlet_ex h
        exact Fr.call Fr.rf (ih h) (subL_rf _)
      · obtain ⟨x13, -, h⟩ := xlet_ex h
        exact Fr.call Fr.rf (ih h) (subL_rf _)
    · obtain ⟨-, h⟩ := gu_ex h
      obtain ⟨-, h⟩ := gu_ex h
      obtain ⟨σ14, e2, h⟩ := xlet_ex h
      have F2 : Fr s_M_layNear σ σ14 := Fr.up Fr.rf e2 (rfl)
      obtain ⟨-, h⟩ := gu_ex h
      obtain ⟨σ15, e3, h⟩ := xlet_ex h
      have F3 : Fr s_M_layNear σ σ15 := Fr.up F2 e3 (rfl)
      obtain ⟨x16, -, h⟩ := xlet_ex h
      exact Fr.call F3 (hk82 h) (rfl)
theorem fr_M_layNear_82 : ∀ (n : Nat) {l4 : Int} {σ : xSt} {r : (xSt)}, f_M_layNear_82  n l4 σ = some r → Fr s_M_layNear σ r := by
  intro n
  induction n with
  | zero => exact fun h => nomatch h
  | succ n ih =>
    intro l4 σ r h
    unfold f_M_layNear_82 at h
    rcases ite_ex h with ⟨-, h⟩ | ⟨-, h⟩
    · exact Fr.call Fr.rf (fr_M_layNear_95 (fun h => ih h) _ h) (subL_rf _)
    · cases h
      exact Fr.rf
theorem fr_M_layNear_10 : ∀ (n : Nat) {l2 : Int} {l4 : Int} {l6 : Int} {σ : xSt} {r : (xSt)}, f_M_layNear_10  n l2 l4 l6 σ = some r → Fr s_M_layNear σ r := by
  intro n
  induction n with
  | zero => exact fun h => nomatch h
  | succ n ih =>
    intro l2 l4 l6 σ r h
    unfold f_M_layNear_10 at h
    obtain ⟨r2, -, h⟩ := xbR_ex h
    rcases ite_ex h with ⟨-, h⟩ | ⟨-, h⟩
    · obtain ⟨r3, -, h⟩ := xbR_ex h
      obtain ⟨r4, -, h⟩ := xbR_ex h
      obtain ⟨-, h⟩ := gd_ex h
      obtain ⟨-, h⟩ := gu_ex h
      obtain ⟨σ5, e4, h⟩ := xlet_ex h
      have F4 : Fr s_M_layNear σ σ5 := Fr.up Fr.rf e4 (rfl)
      obtain ⟨r6, -, h⟩ := xbR_ex h
      obtain ⟨r7, -, h⟩ := xbR_ex h
      obtain ⟨-, h⟩ := gd_ex h
      obtain ⟨-, h⟩ := gu_ex h
      obtain ⟨σ8, e7, h⟩ := xlet_ex h
      have F7 : Fr s_M_layNear σ σ8 := Fr.up F4 e7 (rfl)
      obtain ⟨-, h⟩ := gu_ex h
      obtain ⟨x9, -, h⟩ := xlet_ex h
      obtain ⟨x10, -, h⟩ := xlet_ex h
      exact Fr.call F7 (ih h) (subL_rf _)
    · exact Fr.call Fr.rf (fr_M_layNear_82 _ h) (subL_rf _)
theorem fr_M_layNear {p1 : Int} {σ : xSt} {r : (xSt)} (h : f_M_layNear p1 σ = some r) : Fr s_M_layNear σ r := by
  unfold f_M_layNear at h
  obtain ⟨x1, -, h⟩ := xlet_ex h
  exact Fr.call Fr.rf (fr_M_layNear_10 _ h) (subL_rf _)
theorem fr_M_nearest {p1 : Int} {p2 : Int} {σ : xSt} {r : (Int × xSt)} (h : f_M_nearest p1 p2 σ = some r) : Fr s_M_nearest σ r.2 := by
  unfold f_M_nearest at h
  obtain ⟨σ1, e1, h⟩ := xlet_ex h
  have F1 : Fr s_M_nearest σ σ1 := Fr.up Fr.rf e1 (rfl)
  obtain ⟨σ2, e2, h⟩ := xbR_ex h
  have F2 : Fr s_M_nearest σ σ2 := Fr.call F1 (fr_M_lay e2) (rfl)
  obtain ⟨r3, -, h⟩ := xbR_ex h
  rcases ite_ex h with ⟨-, h⟩ | ⟨-, h⟩
  · cases h
    exact F2
  · obtain ⟨r4, -, h⟩ := xbR_ex h
    rcases ite_ex h with ⟨-, h⟩ | ⟨-, h⟩
    · cases h
      exact F2
    · obtain ⟨r5, -, h⟩ := xbR_ex h
      rcases ite_ex h with ⟨-, h⟩ | ⟨-, h⟩
      · cases h
        exact F2
      · obtain ⟨σ6, e6, h⟩ := xbR_ex h
        have F6 : Fr s_M_nearest σ σ6 := Fr.call F2 (fr_M_layNear e6) (rfl)
        obtain ⟨-, h⟩ := gu_ex h
        cases h
        exact F6
theorem fr_M_off_30 {σ : xSt} {r : (Int × xSt)} (h : f_M_off_30 σ = some r) : Fr s_M_off σ r.2 := by
  unfold f_M_off_30 at h
  obtain ⟨r7, σ8, e1, h⟩ := xbW_ex h
  have F1 : Fr s_M_off σ σ8 := Fr.call Fr.rf (fr_M_refuseLong e1) (rfl)
  cases h
  exact F1
theorem fr_M_off_50 : ∀ (n : Nat) {l1 : Int} {l2 : Int} {l3 : Int} {l5 : Int} {σ : xSt} {r : (Int × xSt)}, f_M_off_50  n l1 l2 l3 l5 σ = some r → Fr s_M_off σ r.2 := by
  intro n
  induction n with
  | zero => exact fun h => nomatch h
  | succ n ih =>
    intro l1 l2 l3 l5 σ r h
    unfold f_M_off_50 at h
    obtain ⟨r9, -, h⟩ := xbR_ex h
    rcases ite_ex h with ⟨-, h⟩ | ⟨-, h⟩
    · obtain ⟨-, h⟩ := gu_ex h
      obtain ⟨r10, -, h⟩ := xbR_ex h
      obtain ⟨r11, -, h⟩ := xbR_ex h
      obtain ⟨x12, -, h⟩ := xlet_ex h
      rcases ite_ex h with ⟨-, h⟩ | ⟨-, h⟩
      · obtain ⟨x13, -, h⟩ := xlet_ex h
        obtain ⟨x14, -, h⟩ := xlet_ex h
        exact Fr.call Fr.rf (ih h) (subL_rf _)
      · obtain ⟨x15, -, h⟩ := xlet_ex h
        obtain ⟨x16, -, h⟩ := xlet_ex h
        exact Fr.call Fr.rf (ih h) (subL_rf _)
    · obtain ⟨r17, -, h⟩ := xbR_ex h
      obtain ⟨r18, -, h⟩ := xbR_ex h
      cases h
      exact Fr.rf
theorem fr_M_off {p1 : Int} {p2 : Int} {σ : xSt} {r : (Int × xSt)} (h : f_M_off p1 p2 σ = some r) : Fr s_M_off σ r.2 := by
  unfold f_M_off at h
  obtain ⟨σ1, e1, h⟩ := xbR_ex h
  have F1 : Fr s_M_off σ σ1 := Fr.call Fr.rf (fr_M_lay e1) (rfl)
  obtain ⟨r2, -, h⟩ := xbR_ex h
  rcases ite_ex h with ⟨-, h⟩ | ⟨-, h⟩
  · exact Fr.call F1 (fr_M_off_30 h) (subL_rf _)
  · obtain ⟨r3, -, h⟩ := xbR_ex h
    rcases ite_ex h with ⟨-, h⟩ | ⟨-, h⟩
    · exact Fr.call F1 (fr_M_off_30 h) (subL_rf _)
    · obtain ⟨r4, -, h⟩ := xbR_ex h
      rcases ite_ex h with ⟨-, h⟩ | ⟨-, h⟩
      · exact Fr.call F1 (fr_M_off_30 h) (subL_rf _)
      · obtain ⟨σ5, e5, h⟩ := xlet_ex h
        have F5 : Fr s_M_off σ σ5 := Fr.up F1 e5 (rfl)
        obtain ⟨σ6, e6, h⟩ := xbR_ex h
        have F6 : Fr s_M_off σ σ6 := Fr.call F5 (fr_M_layNear e6) (rfl)
        exact Fr.call F6 (fr_M_off_50 _ h) (subL_rf _)
theorem fr_M_mixed_29 {σ : xSt} {r : (Int × xSt)} (h : f_M_mixed_29 σ = some r) : Fr s_M_mixed σ r.2 := by
  unfold f_M_mixed_29 at h
  obtain ⟨r5, σ6, e1, h⟩ := xbW_ex h
  have F1 : Fr s_M_mixed σ σ6 := Fr.call Fr.rf (fr_M_refuseLong e1) (rfl)
  cases h
  exact F1
theorem fr_M_mixed_91 {σ : xSt} {r : (Int × xSt)} (h : f_M_mixed_91 σ = some r) : Fr s_M_mixed σ r.2 := by
  unfold f_M_mixed_91 at h
  obtain ⟨r15, σ16, e1, h⟩ := xbW_ex h
  have F1 : Fr s_M_mixed σ σ16 := Fr.call Fr.rf (fr_M_refuseLong e1) (rfl)
  cases h
  exact F1
theorem fr_M_mixed_96 {k40 : (Int → Int → Int → Int → Int → xSt → Option (Int × xSt))} {l1 : Int} {l2 : Int} {l3 : Int} {l5 : Int} (hk40 : ∀ {z0 : Int} {z1 : Int} {z2 : Int} {z3 : Int} {z4 : Int} {σ : xSt} {r : (Int × xSt)}, k40 z0 z1 z2 z3 z4 σ = some r → Fr s_M_mixed σ r.2) {σ : xSt} {r : (Int × xSt)} (h : f_M_mixed_96 k40 l1 l2 l3 l5 σ = some r) : Fr s_M_mixed σ r.2 := by
  unfold f_M_mixed_96 at h
  obtain ⟨r17, -, h⟩ := xbR_ex h
  obtain ⟨x18, -, h⟩ := xlet_ex h
  exact Fr.call Fr.rf (hk40 h) (rfl)
theorem fr_M_mixed_164 {k141 : (Int → Int → Int → Int → Int → Int → xSt → Option (Int × xSt))} {l1 : Int} {l2 : Int} {l3 : Int} {l4 : Int} {l5 : Int} {l7 : Int} {s0 : Int} {s1 : Int} (hk141 : ∀ {z0 : Int} {z1 : Int} {z2 : Int} {z3 : Int} {z4 : Int} {z5 : Int} {σ : xSt} {r : (Int × xSt)}, k141 z0 z1 z2 z3 z4 z5 σ = some r → Fr s_M_mixed σ r.2) {σ : xSt} {r : (Int × xSt)} (h : f_M_mixed_164 k141 l1 l2 l3 l4 l5 l7 s0 s1 σ = some r) : Fr s_M_mixed σ r.2 := by
  unfold f_M_mixed_164 at h
  obtain ⟨-, h⟩ := gu_ex h
  obtain ⟨σ19, e1, h⟩ := xlet_ex h
  have F1 : Fr s_M_mixed σ σ19 := Fr.up Fr.rf e1 (rfl)
  obtain ⟨x20, -, h⟩ := xlet_ex h
  exact Fr.call F1 (hk141 h) (rfl)
theorem fr_M_mixed_232 {k174 : (Int → Int → Int → Int → Int → Int → xSt → Option (Int × xSt))} {k222 : (Int → Int → Int → Int → Int → Int → Int → xSt → Option (Int × xSt))} (hk174 : ∀ {z0 : Int} {z1 : Int} {z2 : Int} {z3 : Int} {z4 : Int} {z5 : Int} {σ : xSt} {r : (Int × xSt)}, k174 z0 z1 z2 z3 z4 z5 σ = some r → Fr s_M_mixed σ r.2) (hk222 : ∀ {z0 : Int} {z1 : Int} {z2 : Int} {z3 : Int} {z4 : Int} {z5 : Int} {z6 : Int} {σ : xSt} {r : (Int × xSt)}, k222 z0 z1 z2 z3 z4 z5 z6 σ = some r → Fr s_M_mixed σ r.2) : ∀ (n : Nat) {l1 : Int} {l2 : Int} {l3 : Int} {l4 : Int} {l5 : Int} {l7 : Int} {l8 : Int} {l9 : Int} {σ : xSt} {r : (Int × xSt)}, f_M_mixed_232 k174 k222 n l1 l2 l3 l4 l5 l7 l8 l9 σ = some r → Fr s_M_mixed σ r.2 := by
  intro n
  induction n with
  | zero => exact fun h => nomatch h
  | succ n ih =>
    intro l1 l2 l3 l4 l5 l7 l8 l9 σ r h
    unfold f_M_mixed_232 at h
    rcases ite_ex h with ⟨-, h⟩ | ⟨-, h⟩
    · obtain ⟨-, h⟩ := gd_ex h
      obtain ⟨-, h⟩ := gu_ex h
      obtain ⟨-, h⟩ := gu_ex h
      obtain ⟨r27, -, h⟩ := xbR_ex h
      obtain ⟨-, h⟩ := gu_ex h
      obtain ⟨σ28, e2, h⟩ := xlet_ex h
      have F2 : Fr s_M_mixed σ σ28 := Fr.up Fr.rf e2 (rfl)
      obtain ⟨x29, -, h⟩ := xlet_ex h
      exact Fr.call F2 (ih h) (subL_rf _)
    · obtain ⟨x30, -, h⟩ := xlet_ex h
      exact Fr.call Fr.rf (hk222 h) (rfl)
theorem fr_M_mixed_290 {k174 : (Int → Int → Int → Int → Int → Int → xSt → Option (Int × xSt))} (hk174 : ∀ {z0 : Int} {z1 : Int} {z2 : Int} {z3 : Int} {z4 : Int} {z5 : Int} {σ : xSt} {r : (Int × xSt)}, k174 z0 z1 z2 z3 z4 z5 σ = some r → Fr s_M_mixed σ r.2) : ∀ (n : Nat) {l1 : Int} {l2 : Int} {l3 : Int} {l4 : Int} {l5 : Int} {l7 : Int} {l8 : Int} {σ : xSt} {r : (Int × xSt)}, f_M_mixed_290 k174 n l1 l2 l3 l4 l5 l7 l8 σ = some r → Fr s_M_mixed σ r.2 := by
  intro n
  induction n with
  | zero => exact fun h => nomatch h
  | succ n ih =>
    intro l1 l2 l3 l4 l5 l7 l8 σ r h
    unfold f_M_mixed_290 at h
    rcases ite_ex h with ⟨-, h⟩ | ⟨-, h⟩
    · obtain ⟨-, h⟩ := gu_ex h
      obtain ⟨-, h⟩ := gu_ex h
      obtain ⟨σ31, e1, h⟩ := xlet_ex h
      have F1 : Fr s_M_mixed σ σ31 := Fr.up Fr.rf e1 (rfl)
      obtain ⟨x32, -, h⟩ := xlet_ex h
      exact Fr.call F1 (ih h) (subL_rf _)
    · obtain ⟨r33, -, h⟩ := xbR_ex h
      obtain ⟨x34, -, h⟩ := xlet_ex h
      obtain ⟨x35, -, h⟩ := xlet_ex h
      exact Fr.call Fr.rf (hk174 h) (rfl)
theorem fr_M_mixed_222 {k174 : (Int → Int → Int → Int → Int → Int → xSt → Option (Int × xSt))} (hk174 : ∀ {z0 : Int} {z1 : Int} {z2 : Int} {z3 : Int} {z4 : Int} {z5 : Int} {σ : xSt} {r : (Int × xSt)}, k174 z0 z1 z2 z3 z4 z5 σ = some r → Fr s_M_mixed σ r.2) : ∀ (n : Nat) {l1 : Int} {l2 : Int} {l3 : Int} {l4 : Int} {l5 : Int} {l7 : Int} {l8 : Int} {σ : xSt} {r : (Int × xSt)}, f_M_mixed_222 k174 n l1 l2 l3 l4 l5 l7 l8 σ = some r → Fr s_M_mixed σ r.2 := by
  intro n
  induction n with
  | zero => exact fun h => nomatch h
  | succ n ih =>
    intro l1 l2 l3 l4 l5 l7 l8 σ r h
    unfold f_M_mixed_222 at h
    rcases ite_ex h with ⟨-, h⟩ | ⟨-, h⟩
    · exact Fr.call Fr.rf (fr_M_mixed_232 hk174 (fun h => ih h) _ h) (subL_rf _)
    · exact Fr.call Fr.rf (fr_M_mixed_290 hk174 _ h) (subL_rf _)
theorem fr_M_mixed_198 {k174 : (Int → Int → Int → Int → Int → Int → xSt → Option (Int × xSt))} (hk174 : ∀ {z0 : Int} {z1 : Int} {z2 : Int} {z3 : Int} {z4 : Int} {z5 : Int} {σ : xSt} {r : (Int × xSt)}, k174 z0 z1 z2 z3 z4 z5 σ = some r → Fr s_M_mixed σ r.2) : ∀ (n : Nat) {l1 : Int} {l2 : Int} {l3 : Int} {l4 : Int} {l5 : Int} {l7 : Int} {l8 : Int} {σ : xSt} {r : (Int × xSt)}, f_M_mixed_198 k174 n l1 l2 l3 l4 l5 l7 l8 σ = some r → Fr s_M_mixed σ r.2 := by
  intro n
  induction n with
  | zero => exact fun h => nomatch h
  | succ n ih =>
    intro l1 l2 l3 l4 l5 l7 l8 σ r h
    unfold f_M_mixed_198 at h
    rcases ite_ex h with ⟨-, h⟩ | ⟨-, h⟩
    · obtain ⟨-, h⟩ := gu_ex h
      obtain ⟨σ25, e1, h⟩ := xlet_ex h
      have F1 : Fr s_M_mixed σ σ25 := Fr.up Fr.rf e1 (rfl)
      obtain ⟨x26, -, h⟩ := xlet_ex h
      exact Fr.call F1 (ih h) (subL_rf _)
    · exact Fr.call Fr.rf (fr_M_mixed_222 hk174 _ h) (subL_rf _)
theorem fr_M_mixed_174 : ∀ (n : Nat) {l1 : Int} {l2 : Int} {l3 : Int} {l4 : Int} {l5 : Int} {l7 : Int} {σ : xSt} {r : (Int × xSt)}, f_M_mixed_174  n l1 l2 l3 l4 l5 l7 σ = some r → Fr s_M_mixed σ r.2 := by
  intro n
  induction n with
  | zero => exact fun h => nomatch h
  | succ n ih =>
    intro l1 l2 l3 l4 l5 l7 σ r h
    unfold f_M_mixed_174 at h
    obtain ⟨r21, -, h⟩ := xbR_ex h
    rcases ite_ex h with ⟨-, h⟩ | ⟨-, h⟩
    · obtain ⟨r22, -, h⟩ := xbR_ex h
      rcases ite_ex h with ⟨-, h⟩ | ⟨-, h⟩
      · obtain ⟨x23, -, h⟩ := xlet_ex h
        exact Fr.call Fr.rf (ih h) (subL_rf _)
      · exact Fr.call Fr.rf (fr_M_mixed_198 (fun h => ih h) _ h) (subL_rf _)
    · obtain ⟨-, h⟩ := gu_ex h
      obtain ⟨r24, -, h⟩ := xbR_ex h
      cases h
      exact Fr.rf
theorem fr_M_mixed_141 : ∀ (n : Nat) {l1 : Int} {l2 : Int} {l3 : Int} {l4 : Int} {l5 : Int} {l7 : Int} {σ : xSt} {r : (Int × xSt)}, f_M_mixed_141  n l1 l2 l3 l4 l5 l7 σ = some r → Fr s_M_mixed σ r.2 := by
  intro n
  induction n with
  | zero => exact fun h => nomatch h
  | succ n ih =>
    intro l1 l2 l3 l4 l5 l7 σ r h
    unfold f_M_mixed_141 at h
    rcases ite_ex h with ⟨-, h⟩ | ⟨-, h⟩
    · rcases ite_ex h with ⟨-, h⟩ | ⟨-, h⟩
      · exact Fr.call Fr.rf (fr_M_mixed_164 (fun h => ih h) h) (subL_rf _)
      · exact Fr.call Fr.rf (fr_M_mixed_164 (fun h => ih h) h) (subL_rf _)
    · exact Fr.call Fr.rf (fr_M_mixed_174 _ h) (subL_rf _)
theorem fr_M_mixed_40 : ∀ (n : Nat) {l1 : Int} {l2 : Int} {l3 : Int} {l4 : Int} {l5 : Int} {σ : xSt} {r : (Int × xSt)}, f_M_mixed_40  n l1 l2 l3 l4 l5 σ = some r → Fr s_M_mixed σ r.2 := by
  intro n
  induction n with
  | zero => exact fun h => nomatch h
  | succ n ih =>
    intro l1 l2 l3 l4 l5 σ r h
    unfold f_M_mixed_40 at h
    obtain ⟨r7, -, h⟩ := xbR_ex h
    rcases ite_ex h with ⟨-, h⟩ | ⟨-, h⟩
    · obtain ⟨r8, -, h⟩ := xbR_ex h
      rcases ite_ex h with ⟨-, h⟩ | ⟨-, h⟩
      · obtain ⟨x9, -, h⟩ := xlet_ex h
        exact Fr.call Fr.rf (ih h) (subL_rf _)
      · rcases ite_ex h with ⟨-, h⟩ | ⟨-, h⟩
        · exact Fr.call Fr.rf (fr_M_mixed_91 h) (subL_rf _)
        · rcases ite_ex h with ⟨-, h⟩ | ⟨-, h⟩
          · obtain ⟨r10, -, h⟩ := xbR_ex h
            rcases ite_ex h with ⟨-, h⟩ | ⟨-, h⟩
            · exact Fr.call Fr.rf (fr_M_mixed_96 (fun h => ih h) h) (subL_rf _)
            · exact Fr.call Fr.rf (fr_M_mixed_91 h) (subL_rf _)
          · exact Fr.call Fr.rf (fr_M_mixed_96 (fun h => ih h) h) (subL_rf _)
    · obtain ⟨r11, -, h⟩ := xbR_ex h
      rcases ite_ex h with ⟨-, h⟩ | ⟨-, h⟩
      · obtain ⟨r12, σ13, e5, h⟩ := xbW_ex h
        have F5 : Fr s_M_mixed σ σ13 := Fr.call Fr.rf (fr_M_refuseLong e5) (rfl)
        cases h
        exact F5
      · obtain ⟨σ14, e6, h⟩ := xlet_ex h
        have F6 : Fr s_M_mixed σ σ14 := Fr.up Fr.rf e6 (rfl)
        exact Fr.call F6 (fr_M_mixed_141 _ h) (subL_rf _)
theorem fr_M_mixed {p1 : Int} {p2 : Int} {p3 : Int} {σ : xSt} {r : (Int × xSt)} (h : f_M_mixed p1 p2 p3 σ = some r) : Fr s_M_mixed σ r.2 := by
  unfold f_M_mixed at h
  obtain ⟨σ1, e1, h⟩ := xbR_ex h
  have F1 : Fr s_M_mixed σ σ1 := Fr.call Fr.rf (fr_M_lay e1) (rfl)
  obtain ⟨r2, -, h⟩ := xbR_ex h
  obtain ⟨r3, -, h⟩ := xbR_ex h
  rcases ite_ex h with ⟨-, h⟩ | ⟨-, h⟩
  · exact Fr.call F1 (fr_M_mixed_29 h) (subL_rf _)
  · obtain ⟨r4, -, h⟩ := xbR_ex h
    rcases ite_ex h with ⟨-, h⟩ | ⟨-, h⟩
    · exact Fr.call F1 (fr_M_mixed_29 h) (subL_rf _)
    · exact Fr.call F1 (fr_M_mixed_40 _ h) (subL_rf _)
theorem fr_M_luck_28 {σ : xSt} {r : (Int × xSt)} (h : f_M_luck_28 σ = some r) : Fr s_M_luck σ r.2 := by
  unfold f_M_luck_28 at h
  obtain ⟨r5, σ6, e1, h⟩ := xbW_ex h
  have F1 : Fr s_M_luck σ σ6 := Fr.call Fr.rf (fr_M_refuseLong e1) (rfl)
  cases h
  exact F1
theorem fr_M_luck_44 : ∀ (n : Nat) {l1 : Int} {l2 : Int} {l3 : Int} {l4 : Int} {l6 : Int} {σ : xSt} {r : (Int × xSt)}, f_M_luck_44  n l1 l2 l3 l4 l6 σ = some r → Fr s_M_luck σ r.2 := by
  intro n
  induction n with
  | zero => exact fun h => nomatch h
  | succ n ih =>
    intro l1 l2 l3 l4 l6 σ r h
    unfold f_M_luck_44 at h
    rcases ite_ex h with ⟨-, h⟩ | ⟨-, h⟩
    · obtain ⟨r7, -, h⟩ := xbR_ex h
      cases h
      exact Fr.rf
    · obtain ⟨r8, -, h⟩ := xbR_ex h
      obtain ⟨r9, -, h⟩ := xbR_ex h
      rcases ite_ex h with ⟨-, h⟩ | ⟨-, h⟩
      · obtain ⟨x10, -, h⟩ := xlet_ex h
        exact Fr.call Fr.rf (ih h) (subL_rf _)
      · obtain ⟨r11, -, h⟩ := xbR_ex h
        obtain ⟨x12, -, h⟩ := xlet_ex h
        obtain ⟨x13, -, h⟩ := xlet_ex h
        exact Fr.call Fr.rf (ih h) (subL_rf _)
theorem fr_M_luck {p1 : Int} {p2 : Int} {p3 : Int} {σ : xSt} {r : (Int × xSt)} (h : f_M_luck p1 p2 p3 σ = some r) : Fr s_M_luck σ r.2 := by
  unfold f_M_luck at h
  obtain ⟨r1, -, h⟩ := xbR_ex h
  rcases ite_ex h with ⟨-, h⟩ | ⟨-, h⟩
  · exact Fr.call Fr.rf (fr_M_luck_28 h) (subL_rf _)
  · obtain ⟨r2, -, h⟩ := xbR_ex h
    rcases ite_ex h with ⟨-, h⟩ | ⟨-, h⟩
    · exact Fr.call Fr.rf (fr_M_luck_28 h) (subL_rf _)
    · obtain ⟨r3, -, h⟩ := xbR_ex h
      rcases ite_ex h with ⟨-, h⟩ | ⟨-, h⟩
      · exact Fr.call Fr.rf (fr_M_luck_28 h) (subL_rf _)
      · obtain ⟨σ4, e4, h⟩ := xlet_ex h
        have F4 : Fr s_M_luck σ σ4 := Fr.up Fr.rf e4 (rfl)
        exact Fr.call F4 (fr_M_luck_44 _ h) (subL_rf _)
theorem fr_M_runs_32 : ∀ (n : Nat) {l1 : Int} {l2 : Int} {σ : xSt} {r : (Int × xSt)}, f_M_runs_32  n l1 l2 σ = some r → Fr s_M_runs σ r.2 := by
  intro n
  induction n with
  | zero => exact fun h => nomatch h
  | succ n ih =>
    intro l1 l2 σ r h
    unfold f_M_runs_32 at h
    rcases ite_ex h with ⟨-, h⟩ | ⟨-, h⟩
    · obtain ⟨-, h⟩ := gu_ex h
      obtain ⟨σ6, e1, h⟩ := xlet_ex h
      have F1 : Fr s_M_runs σ σ6 := Fr.up Fr.rf e1 (rfl)
      rcases ite_ex h with ⟨-, h⟩ | ⟨-, h⟩
      · obtain ⟨-, h⟩ := gu_ex h
        obtain ⟨-, h⟩ := gu_ex h
        rcases ite_ex h with ⟨-, h⟩ | ⟨-, h⟩
        · obtain ⟨x7, -, h⟩ := xlet_ex h
          exact Fr.call F1 (ih h) (subL_rf _)
        · obtain ⟨σ8, e2, h⟩ := xlet_ex h
          have F2 : Fr s_M_runs σ σ8 := Fr.up F1 e2 (rfl)
          obtain ⟨x9, -, h⟩ := xlet_ex h
          exact Fr.call F2 (ih h) (subL_rf _)
      · obtain ⟨x10, -, h⟩ := xlet_ex h
        exact Fr.call F1 (ih h) (subL_rf _)
    · obtain ⟨σ11, e3, h⟩ := xlet_ex h
      have F3 : Fr s_M_runs σ σ11 := Fr.up Fr.rf e3 (rfl)
      cases h
      exact F3
theorem fr_M_runs {σ : xSt} {r : (Int × xSt)} (h : f_M_runs σ = some r) : Fr s_M_runs σ r.2 := by
  unfold f_M_runs at h
  obtain ⟨σ1, e1, h⟩ := xlet_ex h
  have F1 : Fr s_M_runs σ σ1 := Fr.up Fr.rf e1 (rfl)
  obtain ⟨r2, σ3, e2, h⟩ := xbW_ex h
  have F2 : Fr s_M_runs σ σ3 := Fr.call F1 (fr_M_takeRow e2) (rfl)
  rcases ite_ex h with ⟨-, h⟩ | ⟨-, h⟩
  · cases h
    exact F2
  · obtain ⟨σ4, e3, h⟩ := xlet_ex h
    have F3 : Fr s_M_runs σ σ4 := Fr.up F2 e3 (rfl)
    obtain ⟨σ5, e4, h⟩ := xlet_ex h
    have F4 : Fr s_M_runs σ σ5 := Fr.up F3 e4 (rfl)
    exact Fr.call F4 (fr_M_runs_32 _ h) (subL_rf _)
theorem fr_M_seldom_17 {σ : xSt} {r : (Int × xSt)} (h : f_M_seldom_17 σ = some r) : Fr s_M_seldom σ r.2 := by
  unfold f_M_seldom_17 at h
  obtain ⟨r3, σ4, e1, h⟩ := xbW_ex h
  have F1 : Fr s_M_seldom σ σ4 := Fr.call Fr.rf (fr_M_refuseLong e1) (rfl)
  cases h
  exact F1
theorem fr_M_seldom_32 : ∀ (n : Nat) {l1 : Int} {l2 : Int} {l4 : Int} {σ : xSt} {r : (Int × xSt)}, f_M_seldom_32  n l1 l2 l4 σ = some r → Fr s_M_seldom σ r.2 := by
  intro n
  induction n with
  | zero => exact fun h => nomatch h
  | succ n ih =>
    intro l1 l2 l4 σ r h
    unfold f_M_seldom_32 at h
    rcases ite_ex h with ⟨-, h⟩ | ⟨-, h⟩
    · obtain ⟨r5, -, h⟩ := xbR_ex h
      obtain ⟨r6, -, h⟩ := xbR_ex h
      cases h
      exact Fr.rf
    · obtain ⟨r7, -, h⟩ := xbR_ex h
      obtain ⟨x8, -, h⟩ := xlet_ex h
      obtain ⟨x9, -, h⟩ := xlet_ex h
      exact Fr.call Fr.rf (ih h) (subL_rf _)
theorem fr_M_seldom {p1 : Int} {σ : xSt} {r : (Int × xSt)} (h : f_M_seldom p1 σ = some r) : Fr s_M_seldom σ r.2 := by
  unfold f_M_seldom at h
  rcases ite_ex h with ⟨-, h⟩ | ⟨-, h⟩
  · exact Fr.call Fr.rf (fr_M_seldom_17 h) (subL_rf _)
  · obtain ⟨r1, -, h⟩ := xbR_ex h
    rcases ite_ex h with ⟨-, h⟩ | ⟨-, h⟩
    · exact Fr.call Fr.rf (fr_M_seldom_17 h) (subL_rf _)
    · obtain ⟨σ2, e2, h⟩ := xlet_ex h
      have F2 : Fr s_M_seldom σ σ2 := Fr.up Fr.rf e2 (rfl)
      exact Fr.call F2 (fr_M_seldom_32 _ h) (subL_rf _)
theorem fr_M_layCoins_7 : ∀ (n : Nat) {l1 : Int} {σ : xSt} {r : (xSt)}, f_M_layCoins_7  n l1 σ = some r → Fr s_M_layCoins σ r := by
  intro n
  induction n with
  | zero => exact fun h => nomatch h
  | succ n ih =>
    intro l1 σ r h
    unfold f_M_layCoins_7 at h
    obtain ⟨r2, -, h⟩ := xbR_ex h
    rcases ite_ex h with ⟨-, h⟩ | ⟨-, h⟩
    · rcases ite_ex h with ⟨-, h⟩ | ⟨-, h⟩
      · obtain ⟨x3, -, h⟩ := xlet_ex h
        exact Fr.call Fr.rf (ih h) (subL_rf _)
      · obtain ⟨r4, -, h⟩ := xbR_ex h
        rcases ite_ex h with ⟨-, h⟩ | ⟨-, h⟩
        · obtain ⟨x5, -, h⟩ := xlet_ex h
          exact Fr.call Fr.rf (ih h) (subL_rf _)
        · obtain ⟨-, h⟩ := gu_ex h
          obtain ⟨σ6, e3, h⟩ := xlet_ex h
          have F3 : Fr s_M_layCoins σ σ6 := Fr.up Fr.rf e3 (rfl)
          obtain ⟨σ7, e4, h⟩ := xlet_ex h
          have F4 : Fr s_M_layCoins σ σ7 := Fr.up F3 e4 (rfl)
          obtain ⟨x8, -, h⟩ := xlet_ex h
          exact Fr.call F4 (ih h) (subL_rf _)
    · cases h
      exact Fr.rf
theorem fr_M_layCoins {σ : xSt} {r : (xSt)} (h : f_M_layCoins σ = some r) : Fr s_M_layCoins σ r := by
  unfold f_M_layCoins at h
  obtain ⟨σ1, e1, h⟩ := xlet_ex h
  have F1 : Fr s_M_layCoins σ σ1 := Fr.up Fr.rf e1 (rfl)
  exact Fr.call F1 (fr_M_layCoins_7 _ h) (subL_rf _)
theorem fr_M_addSide {p1 : Int} {p2 : Int} {p3 : Int} {σ : xSt} {r : (xSt)} (h : f_M_addSide p1 p2 p3 σ = some r) : Fr s_M_addSide σ r := by
  unfold f_M_addSide at h
  rcases ite_ex h with ⟨-, h⟩ | ⟨-, h⟩
  · obtain ⟨-, h⟩ := gu_ex h
    obtain ⟨-, h⟩ := gu_ex h
    obtain ⟨σ1, e1, h⟩ := xlet_ex h
    have F1 : Fr s_M_addSide σ σ1 := Fr.up Fr.rf e1 (rfl)
    obtain ⟨σ2, e2, h⟩ := xlet_ex h
    have F2 : Fr s_M_addSide σ σ2 := Fr.up F1 e2 (rfl)
    cases h
    exact F2
  · obtain ⟨-, h⟩ := gu_ex h
    obtain ⟨x3, -, h⟩ := xlet_ex h
    obtain ⟨x4, -, h⟩ := xlet_ex h
    obtain ⟨r5, -, h⟩ := xbR_ex h
    obtain ⟨-, h⟩ := gd_ex h
    obtain ⟨x6, -, h⟩ := xlet_ex h
    obtain ⟨-, h⟩ := gu_ex h
    obtain ⟨r7, -, h⟩ := xbR_ex h
    obtain ⟨-, h⟩ := gu_ex h
    obtain ⟨σ8, e5, h⟩ := xlet_ex h
    have F5 : Fr s_M_addSide σ σ8 := Fr.up Fr.rf e5 (rfl)
    obtain ⟨-, h⟩ := gu_ex h
    obtain ⟨r9, -, h⟩ := xbR_ex h
    obtain ⟨-, h⟩ := gu_ex h
    obtain ⟨σ10, e7, h⟩ := xlet_ex h
    have F7 : Fr s_M_addSide σ σ10 := Fr.up F5 e7 (rfl)
    obtain ⟨σ11, e8, h⟩ := xlet_ex h
    have F8 : Fr s_M_addSide σ σ11 := Fr.up F7 e8 (rfl)
    cases h
    exact F8
theorem fr_M_best_323 {k69 : (Int → Int → Int → Int → Int → xSt → Option (Int × xSt))} {k90 : (Int → Int → Int → Int → Int → Int → Int → xSt → Option (Int × xSt))} {l1 : Int} {l4 : Int} {l6 : Int} {l8 : Int} {l9 : Int} {l10 : Int} {l11 : Int} {l12 : Int} {s0 : Int} {s1 : Int} (hk69 : ∀ {z0 : Int} {z1 : Int} {z2 : Int} {z3 : Int} {z4 : Int} {σ : xSt} {r : (Int × xSt)}, k69 z0 z1 z2 z3 z4 σ = some r → Fr s_M_best σ r.2) (hk90 : ∀ {z0 : Int} {z1 : Int} {z2 : Int} {z3 : Int} {z4 : Int} {z5 : Int} {z6 : Int} {σ : xSt} {r : (Int × xSt)}, k90 z0 z1 z2 z3 z4 z5 z6 σ = some r → Fr s_M_best σ r.2) {σ : xSt} {r : (Int × xSt)} (h : f_M_best_323 k69 k90 l1 l4 l6 l8 l9 l10 l11 l12 s0 s1 σ = some r) : Fr s_M_best σ r.2 := by
  unfold f_M_best_323 at h
  obtain ⟨x31, -, h⟩ := xlet_ex h
  obtain ⟨σ32, e1, h⟩ := xlet_ex h
  have F1 : Fr s_M_best σ σ32 := Fr.up Fr.rf e1 (rfl)
  obtain ⟨σ33, e2, h⟩ := xlet_ex h
  have F2 : Fr s_M_best σ σ33 := Fr.up F1 e2 (rfl)
  obtain ⟨σ34, e3, h⟩ := xlet_ex h
  have F3 : Fr s_M_best σ σ34 := Fr.up F2 e3 (rfl)
  obtain ⟨x35, -, h⟩ := xlet_ex h
  exact Fr.call F3 (hk90 h) (rfl)
theorem fr_M_best_311 {k69 : (Int → Int → Int → Int → Int → xSt → Option (Int × xSt))} {k90 : (Int → Int → Int → Int → Int → Int → Int → xSt → Option (Int × xSt))} {l1 : Int} {l4 : Int} {l6 : Int} {l8 : Int} {l9 : Int} {l10 : Int} {l11 : Int} {l12 : Int} {s0 : Int} {s1 : Int} (hk69 : ∀ {z0 : Int} {z1 : Int} {z2 : Int} {z3 : Int} {z4 : Int} {σ : xSt} {r : (Int × xSt)}, k69 z0 z1 z2 z3 z4 σ = some r → Fr s_M_best σ r.2) (hk90 : ∀ {z0 : Int} {z1 : Int} {z2 : Int} {z3 : Int} {z4 : Int} {z5 : Int} {z6 : Int} {σ : xSt} {r : (Int × xSt)}, k90 z0 z1 z2 z3 z4 z5 z6 σ = some r → Fr s_M_best σ r.2) {σ : xSt} {r : (Int × xSt)} (h : f_M_best_311 k69 k90 l1 l4 l6 l8 l9 l10 l11 l12 s0 s1 σ = some r) : Fr s_M_best σ r.2 := by
  unfold f_M_best_311 at h
  rcases ite_ex h with ⟨-, h⟩ | ⟨-, h⟩
  · exact Fr.call Fr.rf (fr_M_best_323 hk69 hk90 h) (subL_rf _)
  · exact Fr.call Fr.rf (fr_M_best_323 hk69 hk90 h) (subL_rf _)
theorem fr_M_best_268 {k69 : (Int → Int → Int → Int → Int → xSt → Option (Int × xSt))} {k90 : (Int → Int → Int → Int → Int → Int → Int → xSt → Option (Int × xSt))} {l1 : Int} {l8 : Int} {l9 : Int} {l10 : Int} {l11 : Int} {l12 : Int} {l13 : Int} (hk69 : ∀ {z0 : Int} {z1 : Int} {z2 : Int} {z3 : Int} {z4 : Int} {σ : xSt} {r : (Int × xSt)}, k69 z0 z1 z2 z3 z4 σ = some r → Fr s_M_best σ r.2) (hk90 : ∀ {z0 : Int} {z1 : Int} {z2 : Int} {z3 : Int} {z4 : Int} {z5 : Int} {z6 : Int} {σ : xSt} {r : (Int × xSt)}, k90 z0 z1 z2 z3 z4 z5 z6 σ = some r → Fr s_M_best σ r.2) {σ : xSt} {r : (Int × xSt)} (h : f_M_best_268 k69 k90 l1 l8 l9 l10 l11 l12 l13 σ = some r) : Fr s_M_best σ r.2 := by
  unfold f_M_best_268 at h
  obtain ⟨r28, -, h⟩ := xbR_ex h
  obtain ⟨-, h⟩ := gd_ex h
  obtain ⟨x29, -, h⟩ := xlet_ex h
  obtain ⟨-, h⟩ := gd_ex h
  obtain ⟨x30, -, h⟩ := xlet_ex h
  rcases ite_ex h with ⟨-, h⟩ | ⟨-, h⟩
  · exact Fr.call Fr.rf (fr_M_best_311 hk69 hk90 h) (subL_rf _)
  · exact Fr.call Fr.rf (fr_M_best_311 hk69 hk90 h) (subL_rf _)
theorem fr_M_best_117 {k69 : (Int → Int → Int → Int → Int → xSt → Option (Int × xSt))} {k90 : (Int → Int → Int → Int → Int → Int → Int → xSt → Option (Int × xSt))} (hk69 : ∀ {z0 : Int} {z1 : Int} {z2 : Int} {z3 : Int} {z4 : Int} {σ : xSt} {r : (Int × xSt)}, k69 z0 z1 z2 z3 z4 σ = some r → Fr s_M_best σ r.2) (hk90 : ∀ {z0 : Int} {z1 : Int} {z2 : Int} {z3 : Int} {z4 : Int} {z5 : Int} {z6 : Int} {σ : xSt} {r : (Int × xSt)}, k90 z0 z1 z2 z3 z4 z5 z6 σ = some r → Fr s_M_best σ r.2) : ∀ (n : Nat) {l1 : Int} {l3 : Int} {l4 : Int} {l6 : Int} {l8 : Int} {l9 : Int} {l10 : Int} {l11 : Int} {σ : xSt} {r : (Int × xSt)}, f_M_best_117 k69 k90 n l1 l3 l4 l6 l8 l9 l10 l11 σ = some r → Fr s_M_best σ r.2 := by
  intro n
  induction n with
  | zero => exact fun h => nomatch h
  | succ n ih =>
    intro l1 l3 l4 l6 l8 l9 l10 l11 σ r h
    unfold f_M_best_117 at h
    rcases ite_ex h with ⟨-, h⟩ | ⟨-, h⟩
    · obtain ⟨-, h⟩ := gu_ex h
      obtain ⟨σ16, e1, h⟩ := xlet_ex h
      have F1 : Fr s_M_best σ σ16 := Fr.up Fr.rf e1 (rfl)
      obtain ⟨x17, -, h⟩ := xlet_ex h
      exact Fr.call F1 (ih h) (subL_rf _)
    · obtain ⟨-, h⟩ := gd_ex h
      obtain ⟨x18, -, h⟩ := xlet_ex h
      obtain ⟨-, h⟩ := gd_ex h
      obtain ⟨x19, -, h⟩ := xlet_ex h
      obtain ⟨r20, -, h⟩ := xbR_ex h
      obtain ⟨σ21, e3, h⟩ := xbR_ex h
      have F3 : Fr s_M_best σ σ21 := Fr.call Fr.rf (fr_M_addSide e3) (rfl)
      obtain ⟨r22, -, h⟩ := xbR_ex h
      obtain ⟨σ23, e5, h⟩ := xbR_ex h
      have F5 : Fr s_M_best σ σ23 := Fr.call F3 (fr_M_addSide e5) (rfl)
      obtain ⟨x24, -, h⟩ := xlet_ex h
      rcases ite_ex h with ⟨-, h⟩ | ⟨-, h⟩
      · obtain ⟨x25, -, h⟩ := xlet_ex h
        exact Fr.call F5 (hk90 h) (rfl)
      · rcases ite_ex h with ⟨-, h⟩ | ⟨-, h⟩
        · rcases ite_ex h with ⟨-, h⟩ | ⟨-, h⟩
          · exact Fr.call F5 (fr_M_best_268 hk69 hk90 h) (subL_rf _)
          · rcases ite_ex h with ⟨-, h⟩ | ⟨-, h⟩
            · exact Fr.call F5 (fr_M_best_268 hk69 hk90 h) (subL_rf _)
            · obtain ⟨x26, -, h⟩ := xlet_ex h
              exact Fr.call F5 (hk90 h) (rfl)
        · obtain ⟨x27, -, h⟩ := xlet_ex h
          exact Fr.call F5 (hk90 h) (rfl)
theorem fr_M_best_90 {k69 : (Int → Int → Int → Int → Int → xSt → Option (Int × xSt))} (hk69 : ∀ {z0 : Int} {z1 : Int} {z2 : Int} {z3 : Int} {z4 : Int} {σ : xSt} {r : (Int × xSt)}, k69 z0 z1 z2 z3 z4 σ = some r → Fr s_M_best σ r.2) : ∀ (n : Nat) {l1 : Int} {l3 : Int} {l4 : Int} {l6 : Int} {l8 : Int} {l9 : Int} {l10 : Int} {σ : xSt} {r : (Int × xSt)}, f_M_best_90 k69 n l1 l3 l4 l6 l8 l9 l10 σ = some r → Fr s_M_best σ r.2 := by
  intro n
  induction n with
  | zero => exact fun h => nomatch h
  | succ n ih =>
    intro l1 l3 l4 l6 l8 l9 l10 σ r h
    unfold f_M_best_90 at h
    rcases ite_ex h with ⟨-, h⟩ | ⟨-, h⟩
    · exact Fr.call Fr.rf (fr_M_best_117 hk69 (fun h => ih h) _ h) (subL_rf _)
    · obtain ⟨x13, -, h⟩ := xlet_ex h
      exact Fr.call Fr.rf (hk69 h) (rfl)
theorem fr_M_best_398 : ∀ (n : Nat) {l3 : Int} {l8 : Int} {σ : xSt} {r : (Int × xSt)}, f_M_best_398  n l3 l8 σ = some r → Fr s_M_best σ r.2 := by
  intro n
  induction n with
  | zero => exact fun h => nomatch h
  | succ n ih =>
    intro l3 l8 σ r h
    unfold f_M_best_398 at h
    rcases ite_ex h with ⟨-, h⟩ | ⟨-, h⟩
    · obtain ⟨-, h⟩ := gu_ex h
      obtain ⟨-, h⟩ := gu_ex h
      obtain ⟨σ14, e1, h⟩ := xlet_ex h
      have F1 : Fr s_M_best σ σ14 := Fr.up Fr.rf e1 (rfl)
      obtain ⟨x15, -, h⟩ := xlet_ex h
      exact Fr.call F1 (ih h) (subL_rf _)
    · cases h
      exact Fr.rf
theorem fr_M_best_69 : ∀ (n : Nat) {l1 : Int} {l3 : Int} {l4 : Int} {l6 : Int} {l8 : Int} {σ : xSt} {r : (Int × xSt)}, f_M_best_69  n l1 l3 l4 l6 l8 σ = some r → Fr s_M_best σ r.2 := by
  intro n
  induction n with
  | zero => exact fun h => nomatch h
  | succ n ih =>
    intro l1 l3 l4 l6 l8 σ r h
    unfold f_M_best_69 at h
    rcases ite_ex h with ⟨-, h⟩ | ⟨-, h⟩
    · obtain ⟨-, h⟩ := gu_ex h
      obtain ⟨x8, -, h⟩ := xlet_ex h
      exact Fr.call Fr.rf (fr_M_best_90 (fun h => ih h) _ h) (subL_rf _)
    · rcases ite_ex h with ⟨-, h⟩ | ⟨-, h⟩
      · cases h
        exact Fr.rf
      · obtain ⟨σ9, e1, h⟩ := xlet_ex h
        have F1 : Fr s_M_best σ σ9 := Fr.up Fr.rf e1 (rfl)
        obtain ⟨σ10, e2, h⟩ := xlet_ex h
        have F2 : Fr s_M_best σ σ10 := Fr.up F1 e2 (rfl)
        obtain ⟨σ11, e3, h⟩ := xlet_ex h
        have F3 : Fr s_M_best σ σ11 := Fr.up F2 e3 (rfl)
        obtain ⟨σ12, e4, h⟩ := xlet_ex h
        have F4 : Fr s_M_best σ σ12 := Fr.up F3 e4 (rfl)
        exact Fr.call F4 (fr_M_best_398 _ h) (subL_rf _)
theorem fr_M_best_27 : ∀ (n : Nat) {l1 : Int} {l3 : Int} {σ : xSt} {r : (Int × xSt)}, f_M_best_27  n l1 l3 σ = some r → Fr s_M_best σ r.2 := by
  intro n
  induction n with
  | zero => exact fun h => nomatch h
  | succ n ih =>
    intro l1 l3 σ r h
    unfold f_M_best_27 at h
    rcases ite_ex h with ⟨-, h⟩ | ⟨-, h⟩
    · obtain ⟨-, h⟩ := gu_ex h
      obtain ⟨r5, -, h⟩ := xbR_ex h
      obtain ⟨x6, -, h⟩ := xlet_ex h
      obtain ⟨x7, -, h⟩ := xlet_ex h
      exact Fr.call Fr.rf (ih h) (subL_rf _)
    · exact Fr.call Fr.rf (fr_M_best_69 _ h) (subL_rf _)
theorem fr_M_best {σ : xSt} {r : (Int × xSt)} (h : f_M_best σ = some r) : Fr s_M_best σ r.2 := by
  unfold f_M_best at h
  obtain ⟨σ1, e1, h⟩ := xlet_ex h
  have F1 : Fr s_M_best σ σ1 := Fr.up Fr.rf e1 (rfl)
  obtain ⟨σ2, e2, h⟩ := xbR_ex h
  have F2 : Fr s_M_best σ σ2 := Fr.call F1 (fr_M_lay e2) (rfl)
  obtain ⟨r3, -, h⟩ := xbR_ex h
  rcases ite_ex h with ⟨-, h⟩ | ⟨-, h⟩
  · cases h
    exact F2
  · obtain ⟨σ4, e4, h⟩ := xbR_ex h
    have F4 : Fr s_M_best σ σ4 := Fr.call F2 (fr_M_layCoins e4) (rfl)
    exact Fr.call F4 (fr_M_best_27 _ h) (subL_rf _)
theorem fr_M_bestMean_17 {σ : xSt} {r : (Int × xSt)} (h : f_M_bestMean_17 σ = some r) : Fr s_M_bestMean σ r.2 := by
  unfold f_M_bestMean_17 at h
  obtain ⟨r3, σ4, e1, h⟩ := xbW_ex h
  have F1 : Fr s_M_bestMean σ σ4 := Fr.call Fr.rf (fr_M_refuseLong e1) (rfl)
  cases h
  exact F1
theorem fr_M_bestMean {p1 : Int} {σ : xSt} {r : (Int × xSt)} (h : f_M_bestMean p1 σ = some r) : Fr s_M_bestMean σ r.2 := by
  unfold f_M_bestMean at h
  rcases ite_ex h with ⟨-, h⟩ | ⟨-, h⟩
  · exact Fr.call Fr.rf (fr_M_bestMean_17 h) (subL_rf _)
  · obtain ⟨r1, -, h⟩ := xbR_ex h
    rcases ite_ex h with ⟨-, h⟩ | ⟨-, h⟩
    · exact Fr.call Fr.rf (fr_M_bestMean_17 h) (subL_rf _)
    · obtain ⟨σ2, e2, h⟩ := xlet_ex h
      have F2 : Fr s_M_bestMean σ σ2 := Fr.up Fr.rf e2 (rfl)
      rcases ite_ex h with ⟨-, h⟩ | ⟨-, h⟩
      · cases h
        exact F2
      · cases h
        exact F2
theorem fr0_M_laySide {q_M_laySide : (Int → xSt → Option (Int × xSt))} {p1 : Int} (hq_M_laySide : ∀ {z0 : Int} {σ : xSt} {r : (Int × xSt)}, q_M_laySide z0 σ = some r → Fr s_M_laySide σ r.2) {σ : xSt} {r : (Int × xSt)} (h : f0_M_laySide q_M_laySide p1 σ = some r) : Fr s_M_laySide σ r.2 := by
  unfold f0_M_laySide at h
  rcases ite_ex h with ⟨-, h⟩ | ⟨-, h⟩
  · obtain ⟨r1, σ2, e1, h⟩ := xbW_ex h
    have F1 : Fr s_M_laySide σ σ2 := Fr.call Fr.rf (fr_M_lays e1) (rfl)
    cases h
    exact F1
  · rcases ite_ex h with ⟨-, h⟩ | ⟨-, h⟩
    · obtain ⟨r3, σ4, e2, h⟩ := xbW_ex h
      have F2 : Fr s_M_laySide σ σ4 := Fr.call Fr.rf (fr_M_lays e2) (rfl)
      cases h
      exact F2
    · obtain ⟨-, h⟩ := gu_ex h
      obtain ⟨r5, σ6, e3, h⟩ := xbW_ex h
      have F3 : Fr s_M_laySide σ σ6 := Fr.call Fr.rf (fr_M_lays e3) (rfl)
      obtain ⟨x7, -, h⟩ := xlet_ex h
      obtain ⟨r8, σ9, e4, h⟩ := xbW_ex h
      have F4 : Fr s_M_laySide σ σ9 := Fr.call F3 (hq_M_laySide e4) (rfl)
      obtain ⟨-, h⟩ := gu_ex h
      obtain ⟨σ10, e5, h⟩ := xlet_ex h
      have F5 : Fr s_M_laySide σ σ10 := Fr.up F4 e5 (rfl)
      obtain ⟨r11, σ12, e6, h⟩ := xbW_ex h
      have F6 : Fr s_M_laySide σ σ12 := Fr.call F5 (hq_M_laySide e6) (rfl)
      obtain ⟨-, h⟩ := gu_ex h
      obtain ⟨σ13, e7, h⟩ := xlet_ex h
      have F7 : Fr s_M_laySide σ σ13 := Fr.up F6 e7 (rfl)
      cases h
      exact F7
theorem frg_M_laySide : ∀ n, (∀ {p1 : Int} {σ : xSt} {r : (Int × xSt)}, f_M_laySide n p1 σ = some r → Fr s_M_laySide σ r.2) := by
  intro n
  induction n with
  | zero => exact (fun h => nomatch h)
  | succ n ih => exact fun h => fr0_M_laySide (q_M_laySide := (g_M_laySide n)) (fun h => ih h) h
theorem fr_M_laySide {n : Nat} {p1 : Int} {σ : xSt} {r : (Int × xSt)} (h : f_M_laySide n p1 σ = some r) : Fr s_M_laySide σ r.2 := (frg_M_laySide _) h
theorem fr_M_take_83 : ∀ (n : Nat) {l1 : Int} {σ : xSt} {r : (Int × xSt)}, f_M_take_83  n l1 σ = some r → Fr s_M_take σ r.2 := by
  intro n
  induction n with
  | zero => exact fun h => nomatch h
  | succ n ih =>
    intro l1 σ r h
    unfold f_M_take_83 at h
    rcases ite_ex h with ⟨-, h⟩ | ⟨-, h⟩
    · obtain ⟨-, h⟩ := gu_ex h
      obtain ⟨-, h⟩ := gu_ex h
      obtain ⟨σ12, e1, h⟩ := xlet_ex h
      have F1 : Fr s_M_take σ σ12 := Fr.up Fr.rf e1 (rfl)
      obtain ⟨x13, -, h⟩ := xlet_ex h
      exact Fr.call F1 (ih h) (subL_rf _)
    · obtain ⟨σ14, e2, h⟩ := xlet_ex h
      have F2 : Fr s_M_take σ σ14 := Fr.up Fr.rf e2 (rfl)
      cases h
      exact F2
theorem fr_M_take {σ : xSt} {r : (Int × xSt)} (h : f_M_take σ = some r) : Fr s_M_take σ r.2 := by
  unfold f_M_take at h
  obtain ⟨σ1, e1, h⟩ := xlet_ex h
  have F1 : Fr s_M_take σ σ1 := Fr.up Fr.rf e1 (rfl)
  obtain ⟨σ2, e2, h⟩ := xbR_ex h
  have F2 : Fr s_M_take σ σ2 := Fr.call F1 (fr_M_lay e2) (rfl)
  rcases ite_ex h with ⟨-, h⟩ | ⟨-, h⟩
  · cases h
    exact F2
  · rcases ite_ex h with ⟨-, h⟩ | ⟨-, h⟩
    · obtain ⟨σ3, e3, h⟩ := xlet_ex h
      have F3 : Fr s_M_take σ σ3 := Fr.up F2 e3 (rfl)
      obtain ⟨r4, σ5, e4, h⟩ := xbW_ex h
      have F4 : Fr s_M_take σ σ5 := Fr.call F3 (fr_M_lays e4) (rfl)
      obtain ⟨r6, σ7, e5, h⟩ := xbW_ex h
      have F5 : Fr s_M_take σ σ7 := Fr.call F4 (fr_M_laySide e5) (rfl)
      obtain ⟨σ8, e6, h⟩ := xlet_ex h
      have F6 : Fr s_M_take σ σ8 := Fr.up F5 e6 (rfl)
      obtain ⟨r9, σ10, e7, h⟩ := xbW_ex h
      have F7 : Fr s_M_take σ σ10 := Fr.call F6 (fr_M_laySide e7) (rfl)
      obtain ⟨σ11, e8, h⟩ := xlet_ex h
      have F8 : Fr s_M_take σ σ11 := Fr.up F7 e8 (rfl)
      exact Fr.call F8 (fr_M_take_83 _ h) (subL_rf _)
    · cases h
      exact F2
theorem fr_M_put {p1 : Int} {σ : xSt} {r : (xSt)} (h : f_M_put p1 σ = some r) : Fr s_M_put σ r := by
  unfold f_M_put at h
  obtain ⟨-, h⟩ := gu_ex h
  obtain ⟨σ1, e1, h⟩ := xlet_ex h
  have F1 : Fr s_M_put σ σ1 := Fr.up Fr.rf e1 (rfl)
  obtain ⟨σ2, e2, h⟩ := xlet_ex h
  have F2 : Fr s_M_put σ σ2 := Fr.up F1 e2 (rfl)
  cases h
  exact F2
theorem fr_M_putName_47 : ∀ (n : Nat) {l4 : Int} {σ : xSt} {r : (xSt)}, f_M_putName_47  n l4 σ = some r → Fr s_M_putName σ r := by
  intro n
  induction n with
  | zero => exact fun h => nomatch h
  | succ n ih =>
    intro l4 σ r h
    unfold f_M_putName_47 at h
    rcases ite_ex h with ⟨-, h⟩ | ⟨-, h⟩
    · cases h
      exact Fr.rf
    · obtain ⟨-, h⟩ := gu_ex h
      obtain ⟨σ5, e1, h⟩ := xbR_ex h
      have F1 : Fr s_M_putName σ σ5 := Fr.call Fr.rf (fr_M_put e1) (rfl)
      obtain ⟨x6, -, h⟩ := xlet_ex h
      exact Fr.call F1 (ih h) (subL_rf _)
theorem fr_M_putName_5 : ∀ (n : Nat) {l3 : Int} {l4 : Int} {σ : xSt} {r : (xSt)}, f_M_putName_5  n l3 l4 σ = some r → Fr s_M_putName σ r := by
  intro n
  induction n with
  | zero => exact fun h => nomatch h
  | succ n ih =>
    intro l3 l4 σ r h
    unfold f_M_putName_5 at h
    rcases ite_ex h with ⟨-, h⟩ | ⟨-, h⟩
    · obtain ⟨-, h⟩ := gu_ex h
      obtain ⟨σ1, e1, h⟩ := xlet_ex h
      have F1 : Fr s_M_putName σ σ1 := Fr.up Fr.rf e1 (rfl)
      obtain ⟨x2, -, h⟩ := xlet_ex h
      obtain ⟨x3, -, h⟩ := xlet_ex h
      exact Fr.call F1 (ih h) (subL_rf _)
    · obtain ⟨x4, -, h⟩ := xlet_ex h
      exact Fr.call Fr.rf (fr_M_putName_47 _ h) (subL_rf _)
theorem fr_M_putName {p1 : Int} {σ : xSt} {r : (xSt)} (h : f_M_putName p1 σ = some r) : Fr s_M_putName σ r := by
  unfold f_M_putName at h
  exact Fr.call Fr.rf (fr_M_putName_5 _ h) (subL_rf _)
theorem fr_M_putNode_93 {q_M_putNode : (Int → xSt → Option (xSt))} {k67 : (Int → Int → xSt → Option (xSt))} {l1 : Int} {l2 : Int} (hq_M_putNode : ∀ {z0 : Int} {σ : xSt} {r : (xSt)}, q_M_putNode z0 σ = some r → Fr s_M_putNode σ r) (hk67 : ∀ {z0 : Int} {z1 : Int} {σ : xSt} {r : (xSt)}, k67 z0 z1 σ = some r → Fr s_M_putNode σ r) {σ : xSt} {r : (xSt)} (h : f_M_putNode_93 q_M_putNode k67 l1 l2 σ = some r) : Fr s_M_putNode σ r := by
  unfold f_M_putNode_93 at h
  obtain ⟨r14, -, h⟩ := xbR_ex h
  obtain ⟨σ15, e2, h⟩ := xbR_ex h
  have F2 : Fr s_M_putNode σ σ15 := Fr.call Fr.rf (hq_M_putNode e2) (rfl)
  obtain ⟨x16, -, h⟩ := xlet_ex h
  exact Fr.call F2 (hk67 h) (rfl)
theorem fr_M_putNode_67 {q_M_putNode : (Int → xSt → Option (xSt))} (hq_M_putNode : ∀ {z0 : Int} {σ : xSt} {r : (xSt)}, q_M_putNode z0 σ = some r → Fr s_M_putNode σ r) : ∀ (n : Nat) {l1 : Int} {l2 : Int} {σ : xSt} {r : (xSt)}, f_M_putNode_67 q_M_putNode n l1 l2 σ = some r → Fr s_M_putNode σ r := by
  intro n
  induction n with
  | zero => exact fun h => nomatch h
  | succ n ih =>
    intro l1 l2 σ r h
    unfold f_M_putNode_67 at h
    obtain ⟨r10, -, h⟩ := xbR_ex h
    obtain ⟨r11, -, h⟩ := xbR_ex h
    rcases ite_ex h with ⟨-, h⟩ | ⟨-, h⟩
    · rcases ite_ex h with ⟨-, h⟩ | ⟨-, h⟩
      · obtain ⟨σ12, e3, h⟩ := xbR_ex h
        have F3 : Fr s_M_putNode σ σ12 := Fr.call Fr.rf (fr_M_put e3) (rfl)
        exact Fr.call F3 (fr_M_putNode_93 hq_M_putNode (fun h => ih h) h) (subL_rf _)
      · exact Fr.call Fr.rf (fr_M_putNode_93 hq_M_putNode (fun h => ih h) h) (subL_rf _)
    · obtain ⟨σ13, e4, h⟩ := xbR_ex h
      have F4 : Fr s_M_putNode σ σ13 := Fr.call Fr.rf (fr_M_put e4) (rfl)
      cases h
      exact F4
theorem fr_M_putNode_46 {q_M_putNode : (Int → xSt → Option (xSt))} {l1 : Int} {s0 : Int} (hq_M_putNode : ∀ {z0 : Int} {σ : xSt} {r : (xSt)}, q_M_putNode z0 σ = some r → Fr s_M_putNode σ r) {σ : xSt} {r : (xSt)} (h : f_M_putNode_46 q_M_putNode l1 s0 σ = some r) : Fr s_M_putNode σ r := by
  unfold f_M_putNode_46 at h
  obtain ⟨-, h⟩ := gu_ex h
  obtain ⟨σ7, e1, h⟩ := xbR_ex h
  have F1 : Fr s_M_putNode σ σ7 := Fr.call Fr.rf (fr_M_putName e1) (rfl)
  obtain ⟨r8, -, h⟩ := xbR_ex h
  rcases ite_ex h with ⟨-, h⟩ | ⟨-, h⟩
  · cases h
    exact F1
  · obtain ⟨σ9, e3, h⟩ := xbR_ex h
    have F3 : Fr s_M_putNode σ σ9 := Fr.call F1 (fr_M_put e3) (rfl)
    exact Fr.call F3 (fr_M_putNode_67 hq_M_putNode _ h) (subL_rf _)
theorem fr0_M_putNode {q_M_putNode : (Int → xSt → Option (xSt))} {p1 : Int} (hq_M_putNode : ∀ {z0 : Int} {σ : xSt} {r : (xSt)}, q_M_putNode z0 σ = some r → Fr s_M_putNode σ r) {σ : xSt} {r : (xSt)} (h : f0_M_putNode q_M_putNode p1 σ = some r) : Fr s_M_putNode σ r := by
  unfold f0_M_putNode at h
  obtain ⟨r1, -, h⟩ := xbR_ex h
  rcases ite_ex h with ⟨-, h⟩ | ⟨-, h⟩
  · obtain ⟨r2, -, h⟩ := xbR_ex h
    obtain ⟨σ3, e3, h⟩ := xbR_ex h
    have F3 : Fr s_M_putNode σ σ3 := Fr.call Fr.rf (fr_M_putName e3) (rfl)
    cases h
    exact F3
  · obtain ⟨r4, -, h⟩ := xbR_ex h
    rcases ite_ex h with ⟨-, h⟩ | ⟨-, h⟩
    · obtain ⟨r5, -, h⟩ := xbR_ex h
      exact Fr.call Fr.rf (fr_M_putNode_46 hq_M_putNode h) (subL_rf _)
    · obtain ⟨r6, -, h⟩ := xbR_ex h
      exact Fr.call Fr.rf (fr_M_putNode_46 hq_M_putNode h) (subL_rf _)
theorem frg_M_putNode : ∀ n, (∀ {p1 : Int} {σ : xSt} {r : (xSt)}, f_M_putNode n p1 σ = some r → Fr s_M_putNode σ r) := by
  intro n
  induction n with
  | zero => exact (fun h => nomatch h)
  | succ n ih => exact fun h => fr0_M_putNode (q_M_putNode := (g_M_putNode n)) (fun h => ih h) h
theorem fr_M_putNode {n : Nat} {p1 : Int} {σ : xSt} {r : (xSt)} (h : f_M_putNode n p1 σ = some r) : Fr s_M_putNode σ r := (frg_M_putNode _) h
theorem fr_M_write {σ : xSt} {r : (Int × xSt)} (h : f_M_write σ = some r) : Fr s_M_write σ r.2 := by
  unfold f_M_write at h
  obtain ⟨σ1, e1, h⟩ := xlet_ex h
  have F1 : Fr s_M_write σ σ1 := Fr.up Fr.rf e1 (rfl)
  obtain ⟨r2, -, h⟩ := xbR_ex h
  rcases ite_ex h with ⟨-, h⟩ | ⟨-, h⟩
  · cases h
    exact F1
  · obtain ⟨σ3, e3, h⟩ := xlet_ex h
    have F3 : Fr s_M_write σ σ3 := Fr.up F1 e3 (rfl)
    obtain ⟨σ4, e4, h⟩ := xbR_ex h
    have F4 : Fr s_M_write σ σ4 := Fr.call F3 (fr_M_putNode e4) (rfl)
    cases h
    exact F4
theorem fr_M_byteAt {p1 : Int} {σ : xSt} {r : (Int × xSt)} (h : f_M_byteAt p1 σ = some r) : Fr s_M_byteAt σ r.2 := by
  unfold f_M_byteAt at h
  obtain ⟨σ1, e1, h⟩ := xlet_ex h
  have F1 : Fr s_M_byteAt σ σ1 := Fr.up Fr.rf e1 (rfl)
  rcases ite_ex h with ⟨-, h⟩ | ⟨-, h⟩
  · cases h
    exact F1
  · rcases ite_ex h with ⟨-, h⟩ | ⟨-, h⟩
    · obtain ⟨-, h⟩ := gu_ex h
      cases h
      exact F1
    · cases h
      exact F1
theorem fr_M_draw {p1 : Int} {σ : xSt} {r : (Int × xSt)} (h : f_M_draw p1 σ = some r) : Fr s_M_draw σ r.2 := by
  unfold f_M_draw at h
  obtain ⟨σ1, e1, h⟩ := xlet_ex h
  have F1 : Fr s_M_draw σ σ1 := Fr.up Fr.rf e1 (rfl)
  obtain ⟨-, h⟩ := gd_ex h
  cases h
  exact F1
theorem fr_M_castBy_56 {k12 : (Int → Int → xSt → Option (Int × xSt))} (hk12 : ∀ {z0 : Int} {z1 : Int} {σ : xSt} {r : (Int × xSt)}, k12 z0 z1 σ = some r → Fr s_M_castBy σ r.2) : ∀ (n : Nat) {l1 : Int} {l3 : Int} {l4 : Int} {l5 : Int} {l6 : Int} {σ : xSt} {r : (Int × xSt)}, f_M_castBy_56 k12 n l1 l3 l4 l5 l6 σ = some r → Fr s_M_castBy σ r.2 := by
  intro n
  induction n with
  | zero => exact fun h => nomatch h
  | succ n ih =>
    intro l1 l3 l4 l5 l6 σ r h
    unfold f_M_castBy_56 at h
    obtain ⟨r10, -, h⟩ := xbR_ex h
    rcases ite_ex h with ⟨-, h⟩ | ⟨-, h⟩
    · obtain ⟨σ11, e2, h⟩ := xlet_ex h
      have F2 : Fr s_M_castBy σ σ11 := Fr.up Fr.rf e2 (rfl)
      obtain ⟨r12, -, h⟩ := xbR_ex h
      obtain ⟨r13, -, h⟩ := xbR_ex h
      rcases ite_ex h with ⟨-, h⟩ | ⟨-, h⟩
      · exact Fr.call F2 (hk12 h) (rfl)
      · exact Fr.call F2 (hk12 h) (rfl)
    · obtain ⟨r14, -, h⟩ := xbR_ex h
      obtain ⟨x15, -, h⟩ := xlet_ex h
      obtain ⟨x16, -, h⟩ := xlet_ex h
      exact Fr.call Fr.rf (ih h) (subL_rf _)
theorem fr_M_castBy_12 : ∀ (n : Nat) {l1 : Int} {l3 : Int} {σ : xSt} {r : (Int × xSt)}, f_M_castBy_12  n l1 l3 σ = some r → Fr s_M_castBy σ r.2 := by
  intro n
  induction n with
  | zero => exact fun h => nomatch h
  | succ n ih =>
    intro l1 l3 σ r h
    unfold f_M_castBy_12 at h
    obtain ⟨r3, -, h⟩ := xbR_ex h
    rcases ite_ex h with ⟨-, h⟩ | ⟨-, h⟩
    · rcases ite_ex h with ⟨-, h⟩ | ⟨-, h⟩
      · cases h
        exact Fr.rf
      · obtain ⟨r4, -, h⟩ := xbR_ex h
        obtain ⟨r5, -, h⟩ := xbR_ex h
        obtain ⟨r6, σ7, e4, h⟩ := xbW_ex h
        have F4 : Fr s_M_castBy σ σ7 := Fr.call Fr.rf (fr_M_draw e4) (rfl)
        exact Fr.call F4 (fr_M_castBy_56 (fun h => ih h) _ h) (subL_rf _)
    · obtain ⟨r8, -, h⟩ := xbR_ex h
      rcases ite_ex h with ⟨-, h⟩ | ⟨-, h⟩
      · obtain ⟨r9, -, h⟩ := xbR_ex h
        cases h
        exact Fr.rf
      · cases h
        exact Fr.rf
theorem fr_M_castBy {p1 : Int} {p2 : Int} {σ : xSt} {r : (Int × xSt)} (h : f_M_castBy p1 p2 σ = some r) : Fr s_M_castBy σ r.2 := by
  unfold f_M_castBy at h
  obtain ⟨σ1, e1, h⟩ := xlet_ex h
  have F1 : Fr s_M_castBy σ σ1 := Fr.up Fr.rf e1 (rfl)
  obtain ⟨σ2, e2, h⟩ := xlet_ex h
  have F2 : Fr s_M_castBy σ σ2 := Fr.up F1 e2 (rfl)
  exact Fr.call F2 (fr_M_castBy_12 _ h) (subL_rf _)
theorem fr_M_cast {p1 : Int} {p2 : Int} {σ : xSt} {r : (Int × xSt)} (h : f_M_cast p1 p2 σ = some r) : Fr s_M_cast σ r.2 := by
  unfold f_M_cast at h
  obtain ⟨σ1, e1, h⟩ := xlet_ex h
  have F1 : Fr s_M_cast σ σ1 := Fr.up Fr.rf e1 (rfl)
  obtain ⟨σ2, e2, h⟩ := xbR_ex h
  have F2 : Fr s_M_cast σ σ2 := Fr.call F1 (fr_M_lay e2) (rfl)
  obtain ⟨r3, -, h⟩ := xbR_ex h
  rcases ite_ex h with ⟨-, h⟩ | ⟨-, h⟩
  · cases h
    exact F2
  · obtain ⟨r4, -, h⟩ := xbR_ex h
    rcases ite_ex h with ⟨-, h⟩ | ⟨-, h⟩
    · obtain ⟨r5, -, h⟩ := xbR_ex h
      rcases ite_ex h with ⟨-, h⟩ | ⟨-, h⟩
      · cases h
        exact F2
      · obtain ⟨r6, σ7, e6, h⟩ := xbW_ex h
        have F6 : Fr s_M_cast σ σ7 := Fr.call F2 (fr_M_castBy e6) (rfl)
        obtain ⟨σ8, e7, h⟩ := xlet_ex h
        have F7 : Fr s_M_cast σ σ8 := Fr.up F6 e7 (rfl)
        cases h
        exact F7
    · cases h
      exact F2
theorem fr_M_tosses {σ : xSt} {r : (Int × xSt)} (h : f_M_tosses σ = some r) : Fr s_M_tosses σ r.2 := by
  unfold f_M_tosses at h
  obtain ⟨σ1, e1, h⟩ := xlet_ex h
  have F1 : Fr s_M_tosses σ σ1 := Fr.up Fr.rf e1 (rfl)
  cases h
  exact F1
theorem fr_M_casts_50 : ∀ (n : Nat) {l1 : Int} {l2 : Int} {l3 : Int} {l4 : Int} {l5 : Int} {σ : xSt} {r : (Int × xSt)}, f_M_casts_50  n l1 l2 l3 l4 l5 σ = some r → Fr s_M_casts σ r.2 := by
  intro n
  induction n with
  | zero => exact fun h => nomatch h
  | succ n ih =>
    intro l1 l2 l3 l4 l5 σ r h
    unfold f_M_casts_50 at h
    rcases ite_ex h with ⟨-, h⟩ | ⟨-, h⟩
    · obtain ⟨r7, σ8, e1, h⟩ := xbW_ex h
      have F1 : Fr s_M_casts σ σ8 := Fr.call Fr.rf (fr_M_castBy e1) (rfl)
      rcases ite_ex h with ⟨-, h⟩ | ⟨-, h⟩
      · obtain ⟨x9, -, h⟩ := xlet_ex h
        obtain ⟨x10, -, h⟩ := xlet_ex h
        exact Fr.call F1 (ih h) (subL_rf _)
      · obtain ⟨x11, -, h⟩ := xlet_ex h
        exact Fr.call F1 (ih h) (subL_rf _)
    · cases h
      exact Fr.rf
theorem fr_M_casts {p1 : Int} {p2 : Int} {p3 : Int} {σ : xSt} {r : (Int × xSt)} (h : f_M_casts p1 p2 p3 σ = some r) : Fr s_M_casts σ r.2 := by
  unfold f_M_casts at h
  obtain ⟨σ1, e1, h⟩ := xlet_ex h
  have F1 : Fr s_M_casts σ σ1 := Fr.up Fr.rf e1 (rfl)
  obtain ⟨σ2, e2, h⟩ := xbR_ex h
  have F2 : Fr s_M_casts σ σ2 := Fr.call F1 (fr_M_lay e2) (rfl)
  obtain ⟨r3, -, h⟩ := xbR_ex h
  rcases ite_ex h with ⟨-, h⟩ | ⟨-, h⟩
  · cases h
    exact F2
  · obtain ⟨r4, -, h⟩ := xbR_ex h
    rcases ite_ex h with ⟨-, h⟩ | ⟨-, h⟩
    · cases h
      exact F2
    · obtain ⟨r5, -, h⟩ := xbR_ex h
      rcases ite_ex h with ⟨-, h⟩ | ⟨-, h⟩
      · cases h
        exact F2
      · obtain ⟨r6, -, h⟩ := xbR_ex h
        rcases ite_ex h with ⟨-, h⟩ | ⟨-, h⟩
        · exact Fr.call F2 (fr_M_casts_50 _ h) (subL_rf _)
        · cases h
          exact F2
theorem fr_M_saysOne {p1 : Int} {p2 : Int} {p3 : Int} {p4 : Int} {σ : xSt} {r : (Int × xSt)} (h : f_M_saysOne p1 p2 p3 p4 σ = some r) : Fr s_M_saysOne σ r.2 := by
  unfold f_M_saysOne at h
  obtain ⟨x1, -, h⟩ := xlet_ex h
  obtain ⟨-, h⟩ := gu_ex h
  obtain ⟨σ2, e1, h⟩ := xlet_ex h
  have F1 : Fr s_M_saysOne σ σ2 := Fr.up Fr.rf e1 (rfl)
  obtain ⟨-, h⟩ := gu_ex h
  obtain ⟨σ3, e2, h⟩ := xlet_ex h
  have F2 : Fr s_M_saysOne σ σ3 := Fr.up F1 e2 (rfl)
  obtain ⟨-, h⟩ := gu_ex h
  obtain ⟨σ4, e3, h⟩ := xlet_ex h
  have F3 : Fr s_M_saysOne σ σ4 := Fr.up F2 e3 (rfl)
  obtain ⟨-, h⟩ := gu_ex h
  obtain ⟨σ5, e4, h⟩ := xlet_ex h
  have F4 : Fr s_M_saysOne σ σ5 := Fr.up F3 e4 (rfl)
  obtain ⟨σ6, e5, h⟩ := xlet_ex h
  have F5 : Fr s_M_saysOne σ σ6 := Fr.up F4 e5 (rfl)
  cases h
  exact F5
theorem fr_M_readNamed {p1 : Int} {σ : xSt} {r : (Int × xSt)} (h : f_M_readNamed p1 σ = some r) : Fr s_M_readNamed σ r.2 := by
  unfold f_M_readNamed at h
  obtain ⟨r1, -, h⟩ := xbR_ex h
  rcases ite_ex h with ⟨-, h⟩ | ⟨-, h⟩
  · obtain ⟨r2, σ3, e2, h⟩ := xbW_ex h
    have F2 : Fr s_M_readNamed σ σ3 := Fr.call Fr.rf (fr_M_bad e2) (rfl)
    cases h
    exact F2
  · obtain ⟨r4, -, h⟩ := xbR_ex h
    obtain ⟨r5, -, h⟩ := xbR_ex h
    rcases ite_ex h with ⟨-, h⟩ | ⟨-, h⟩
    · obtain ⟨r6, σ7, e5, h⟩ := xbW_ex h
      have F5 : Fr s_M_readNamed σ σ7 := Fr.call Fr.rf (fr_M_bad e5) (rfl)
      cases h
      exact F5
    · obtain ⟨r8, σ9, e6, h⟩ := xbW_ex h
      have F6 : Fr s_M_readNamed σ σ9 := Fr.call Fr.rf (fr_M_saysOne e6) (rfl)
      obtain ⟨σ10, e7, h⟩ := xlet_ex h
      have F7 : Fr s_M_readNamed σ σ10 := Fr.up F6 e7 (rfl)
      obtain ⟨σ11, e8, h⟩ := xbR_ex h
      have F8 : Fr s_M_readNamed σ σ11 := Fr.call F7 (fr_M_go e8) (rfl)
      cases h
      exact F8
theorem fr_M_readCompare_33 {l1 : Int} {σ : xSt} {r : (Int × xSt)} (h : f_M_readCompare_33 l1 σ = some r) : Fr s_M_readCompare σ r.2 := by
  unfold f_M_readCompare_33 at h
  obtain ⟨x6, -, h⟩ := xlet_ex h
  obtain ⟨σ7, e1, h⟩ := xbR_ex h
  have F1 : Fr s_M_readCompare σ σ7 := Fr.call Fr.rf (fr_M_go e1) (rfl)
  obtain ⟨r8, σ9, e2, h⟩ := xbW_ex h
  have F2 : Fr s_M_readCompare σ σ9 := Fr.call F1 (fr_M_readNumber e2) (rfl)
  rcases ite_ex h with ⟨-, h⟩ | ⟨-, h⟩
  · cases h
    exact F2
  · obtain ⟨r10, σ11, e3, h⟩ := xbW_ex h
    have F3 : Fr s_M_readCompare σ σ11 := Fr.call F2 (fr_M_saysOne e3) (rfl)
    obtain ⟨σ12, e4, h⟩ := xlet_ex h
    have F4 : Fr s_M_readCompare σ σ12 := Fr.up F3 e4 (rfl)
    cases h
    exact F4
theorem fr_M_readCompare {p1 : Int} {σ : xSt} {r : (Int × xSt)} (h : f_M_readCompare p1 σ = some r) : Fr s_M_readCompare σ r.2 := by
  unfold f_M_readCompare at h
  obtain ⟨r1, -, h⟩ := xbR_ex h
  rcases ite_ex h with ⟨-, h⟩ | ⟨-, h⟩
  · obtain ⟨r2, -, h⟩ := xbR_ex h
    rcases ite_ex h with ⟨-, h⟩ | ⟨-, h⟩
    · obtain ⟨r3, -, h⟩ := xbR_ex h
      rcases ite_ex h with ⟨-, h⟩ | ⟨-, h⟩
      · obtain ⟨r4, σ5, e4, h⟩ := xbW_ex h
        have F4 : Fr s_M_readCompare σ σ5 := Fr.call Fr.rf (fr_M_bad e4) (rfl)
        cases h
        exact F4
      · exact Fr.call Fr.rf (fr_M_readCompare_33 h) (subL_rf _)
    · exact Fr.call Fr.rf (fr_M_readCompare_33 h) (subL_rf _)
  · exact Fr.call Fr.rf (fr_M_readCompare_33 h) (subL_rf _)
theorem fr_M_readAnd_14 {q_M_readAnd : (xSt → Option (Int × xSt))} {q_M_readBracket : (xSt → Option (Int × xSt))} {q_M_readNot : (xSt → Option (Int × xSt))} {q_M_readOne : (xSt → Option (Int × xSt))} {q_M_readOr : (xSt → Option (Int × xSt))} (hq_M_readAnd : ∀ {σ : xSt} {r : (Int × xSt)}, q_M_readAnd σ = some r → Fr s_M_readAnd σ r.2) (hq_M_readBracket : ∀ {σ : xSt} {r : (Int × xSt)}, q_M_readBracket σ = some r → Fr s_M_readAnd σ r.2) (hq_M_readNot : ∀ {σ : xSt} {r : (Int × xSt)}, q_M_readNot σ = some r → Fr s_M_readAnd σ r.2) (hq_M_readOne : ∀ {σ : xSt} {r : (Int × xSt)}, q_M_readOne σ = some r → Fr s_M_readAnd σ r.2) (hq_M_readOr : ∀ {σ : xSt} {r : (Int × xSt)}, q_M_readOr σ = some r → Fr s_M_readAnd σ r.2) : ∀ (n : Nat) {l1 : Int} {σ : xSt} {r : (Int × xSt)}, f_M_readAnd_14 q_M_readAnd q_M_readBracket q_M_readNot q_M_readOne q_M_readOr n l1 σ = some r → Fr s_M_readAnd σ r.2 := by
  intro n
  induction n with
  | zero => exact fun h => nomatch h
  | succ n ih =>
    intro l1 σ r h
    unfold f_M_readAnd_14 at h
    obtain ⟨r4, -, h⟩ := xbR_ex h
    rcases ite_ex h with ⟨-, h⟩ | ⟨-, h⟩
    · obtain ⟨σ5, e2, h⟩ := xlet_ex h
      have F2 : Fr s_M_readAnd σ σ5 := Fr.up Fr.rf e2 (rfl)
      cases h
      exact F2
    · obtain ⟨σ6, e3, h⟩ := xbR_ex h
      have F3 : Fr s_M_readAnd σ σ6 := Fr.call Fr.rf (fr_M_go e3) (rfl)
      obtain ⟨r7, σ8, e4, h⟩ := xbW_ex h
      have F4 : Fr s_M_readAnd σ σ8 := Fr.call F3 (hq_M_readOne e4) (rfl)
      rcases ite_ex h with ⟨-, h⟩ | ⟨-, h⟩
      · cases h
        exact F4
      · obtain ⟨r9, σ10, e5, h⟩ := xbW_ex h
        have F5 : Fr s_M_readAnd σ σ10 := Fr.call F4 (fr_M_saysOne e5) (rfl)
        exact Fr.call F5 (ih h) (subL_rf _)
theorem fr0_M_readAnd {q_M_readAnd : (xSt → Option (Int × xSt))} {q_M_readBracket : (xSt → Option (Int × xSt))} {q_M_readNot : (xSt → Option (Int × xSt))} {q_M_readOne : (xSt → Option (Int × xSt))} {q_M_readOr : (xSt → Option (Int × xSt))} (hq_M_readAnd : ∀ {σ : xSt} {r : (Int × xSt)}, q_M_readAnd σ = some r → Fr s_M_readAnd σ r.2) (hq_M_readBracket : ∀ {σ : xSt} {r : (Int × xSt)}, q_M_readBracket σ = some r → Fr s_M_readAnd σ r.2) (hq_M_readNot : ∀ {σ : xSt} {r : (Int × xSt)}, q_M_readNot σ = some r → Fr s_M_readAnd σ r.2) (hq_M_readOne : ∀ {σ : xSt} {r : (Int × xSt)}, q_M_readOne σ = some r → Fr s_M_readAnd σ r.2) (hq_M_readOr : ∀ {σ : xSt} {r : (Int × xSt)}, q_M_readOr σ = some r → Fr s_M_readAnd σ r.2) {σ : xSt} {r : (Int × xSt)} (h : f0_M_readAnd q_M_readAnd q_M_readBracket q_M_readNot q_M_readOne q_M_readOr σ = some r) : Fr s_M_readAnd σ r.2 := by
  unfold f0_M_readAnd at h
  obtain ⟨r1, σ2, e1, h⟩ := xbW_ex h
  have F1 : Fr s_M_readAnd σ σ2 := Fr.call Fr.rf (hq_M_readOne e1) (rfl)
  rcases ite_ex h with ⟨-, h⟩ | ⟨-, h⟩
  · cases h
    exact F1
  · obtain ⟨x3, -, h⟩ := xlet_ex h
    exact Fr.call F1 (fr_M_readAnd_14 hq_M_readAnd hq_M_readBracket hq_M_readNot hq_M_readOne hq_M_readOr _ h) (subL_rf _)
theorem fr0_M_readBracket {q_M_readAnd : (xSt → Option (Int × xSt))} {q_M_readBracket : (xSt → Option (Int × xSt))} {q_M_readNot : (xSt → Option (Int × xSt))} {q_M_readOne : (xSt → Option (Int × xSt))} {q_M_readOr : (xSt → Option (Int × xSt))} (hq_M_readAnd : ∀ {σ : xSt} {r : (Int × xSt)}, q_M_readAnd σ = some r → Fr s_M_readAnd σ r.2) (hq_M_readBracket : ∀ {σ : xSt} {r : (Int × xSt)}, q_M_readBracket σ = some r → Fr s_M_readAnd σ r.2) (hq_M_readNot : ∀ {σ : xSt} {r : (Int × xSt)}, q_M_readNot σ = some r → Fr s_M_readAnd σ r.2) (hq_M_readOne : ∀ {σ : xSt} {r : (Int × xSt)}, q_M_readOne σ = some r → Fr s_M_readAnd σ r.2) (hq_M_readOr : ∀ {σ : xSt} {r : (Int × xSt)}, q_M_readOr σ = some r → Fr s_M_readAnd σ r.2) {σ : xSt} {r : (Int × xSt)} (h : f0_M_readBracket q_M_readAnd q_M_readBracket q_M_readNot q_M_readOne q_M_readOr σ = some r) : Fr s_M_readAnd σ r.2 := by
  unfold f0_M_readBracket at h
  obtain ⟨r1, σ2, e1, h⟩ := xbW_ex h
  have F1 : Fr s_M_readAnd σ σ2 := Fr.call Fr.rf (hq_M_readOr e1) (rfl)
  rcases ite_ex h with ⟨-, h⟩ | ⟨-, h⟩
  · cases h
    exact F1
  · obtain ⟨r3, σ4, e2, h⟩ := xbW_ex h
    have F2 : Fr s_M_readAnd σ σ4 := Fr.call F1 (fr_M_readSign e2) (rfl)
    cases h
    exact F2
theorem fr0_M_readNot {q_M_readAnd : (xSt → Option (Int × xSt))} {q_M_readBracket : (xSt → Option (Int × xSt))} {q_M_readNot : (xSt → Option (Int × xSt))} {q_M_readOne : (xSt → Option (Int × xSt))} {q_M_readOr : (xSt → Option (Int × xSt))} (hq_M_readAnd : ∀ {σ : xSt} {r : (Int × xSt)}, q_M_readAnd σ = some r → Fr s_M_readAnd σ r.2) (hq_M_readBracket : ∀ {σ : xSt} {r : (Int × xSt)}, q_M_readBracket σ = some r → Fr s_M_readAnd σ r.2) (hq_M_readNot : ∀ {σ : xSt} {r : (Int × xSt)}, q_M_readNot σ = some r → Fr s_M_readAnd σ r.2) (hq_M_readOne : ∀ {σ : xSt} {r : (Int × xSt)}, q_M_readOne σ = some r → Fr s_M_readAnd σ r.2) (hq_M_readOr : ∀ {σ : xSt} {r : (Int × xSt)}, q_M_readOr σ = some r → Fr s_M_readAnd σ r.2) {σ : xSt} {r : (Int × xSt)} (h : f0_M_readNot q_M_readAnd q_M_readBracket q_M_readNot q_M_readOne q_M_readOr σ = some r) : Fr s_M_readAnd σ r.2 := by
  unfold f0_M_readNot at h
  obtain ⟨r1, σ2, e1, h⟩ := xbW_ex h
  have F1 : Fr s_M_readAnd σ σ2 := Fr.call Fr.rf (hq_M_readOne e1) (rfl)
  rcases ite_ex h with ⟨-, h⟩ | ⟨-, h⟩
  · cases h
    exact F1
  · obtain ⟨r3, σ4, e2, h⟩ := xbW_ex h
    have F2 : Fr s_M_readAnd σ σ4 := Fr.call F1 (fr_M_saysOne e2) (rfl)
    obtain ⟨σ5, e3, h⟩ := xlet_ex h
    have F3 : Fr s_M_readAnd σ σ5 := Fr.up F2 e3 (rfl)
    cases h
    exact F3
theorem fr_M_readOne_64 {q_M_readAnd : (xSt → Option (Int × xSt))} {q_M_readBracket : (xSt → Option (Int × xSt))} {q_M_readNot : (xSt → Option (Int × xSt))} {q_M_readOne : (xSt → Option (Int × xSt))} {q_M_readOr : (xSt → Option (Int × xSt))} (hq_M_readAnd : ∀ {σ : xSt} {r : (Int × xSt)}, q_M_readAnd σ = some r → Fr s_M_readAnd σ r.2) (hq_M_readBracket : ∀ {σ : xSt} {r : (Int × xSt)}, q_M_readBracket σ = some r → Fr s_M_readAnd σ r.2) (hq_M_readNot : ∀ {σ : xSt} {r : (Int × xSt)}, q_M_readNot σ = some r → Fr s_M_readAnd σ r.2) (hq_M_readOne : ∀ {σ : xSt} {r : (Int × xSt)}, q_M_readOne σ = some r → Fr s_M_readAnd σ r.2) (hq_M_readOr : ∀ {σ : xSt} {r : (Int × xSt)}, q_M_readOr σ = some r → Fr s_M_readAnd σ r.2) {σ : xSt} {r : (Int × xSt)} (h : f_M_readOne_64 q_M_readAnd q_M_readBracket q_M_readNot q_M_readOne q_M_readOr σ = some r) : Fr s_M_readAnd σ r.2 := by
  unfold f_M_readOne_64 at h
  obtain ⟨r17, σ18, e1, h⟩ := xbW_ex h
  have F1 : Fr s_M_readAnd σ σ18 := Fr.call Fr.rf (fr_M_bad e1) (rfl)
  cases h
  exact F1
theorem fr_M_readOne_172 {q_M_readAnd : (xSt → Option (Int × xSt))} {q_M_readBracket : (xSt → Option (Int × xSt))} {q_M_readNot : (xSt → Option (Int × xSt))} {q_M_readOne : (xSt → Option (Int × xSt))} {q_M_readOr : (xSt → Option (Int × xSt))} {l3 : Int} (hq_M_readAnd : ∀ {σ : xSt} {r : (Int × xSt)}, q_M_readAnd σ = some r → Fr s_M_readAnd σ r.2) (hq_M_readBracket : ∀ {σ : xSt} {r : (Int × xSt)}, q_M_readBracket σ = some r → Fr s_M_readAnd σ r.2) (hq_M_readNot : ∀ {σ : xSt} {r : (Int × xSt)}, q_M_readNot σ = some r → Fr s_M_readAnd σ r.2) (hq_M_readOne : ∀ {σ : xSt} {r : (Int × xSt)}, q_M_readOne σ = some r → Fr s_M_readAnd σ r.2) (hq_M_readOr : ∀ {σ : xSt} {r : (Int × xSt)}, q_M_readOr σ = some r → Fr s_M_readAnd σ r.2) {σ : xSt} {r : (Int × xSt)} (h : f_M_readOne_172 q_M_readAnd q_M_readBracket q_M_readNot q_M_readOne q_M_readOr l3 σ = some r) : Fr s_M_readAnd σ r.2 := by
  unfold f_M_readOne_172 at h
  obtain ⟨σ19, e1, h⟩ := xlet_ex h
  have F1 : Fr s_M_readAnd σ σ19 := Fr.up Fr.rf e1 (rfl)
  cases h
  exact F1
theorem fr_M_readOne_134 {q_M_readAnd : (xSt → Option (Int × xSt))} {q_M_readBracket : (xSt → Option (Int × xSt))} {q_M_readNot : (xSt → Option (Int × xSt))} {q_M_readOne : (xSt → Option (Int × xSt))} {q_M_readOr : (xSt → Option (Int × xSt))} {l2 : Int} {l3 : Int} (hq_M_readAnd : ∀ {σ : xSt} {r : (Int × xSt)}, q_M_readAnd σ = some r → Fr s_M_readAnd σ r.2) (hq_M_readBracket : ∀ {σ : xSt} {r : (Int × xSt)}, q_M_readBracket σ = some r → Fr s_M_readAnd σ r.2) (hq_M_readNot : ∀ {σ : xSt} {r : (Int × xSt)}, q_M_readNot σ = some r → Fr s_M_readAnd σ r.2) (hq_M_readOne : ∀ {σ : xSt} {r : (Int × xSt)}, q_M_readOne σ = some r → Fr s_M_readAnd σ r.2) (hq_M_readOr : ∀ {σ : xSt} {r : (Int × xSt)}, q_M_readOr σ = some r → Fr s_M_readAnd σ r.2) {σ : xSt} {r : (Int × xSt)} (h : f_M_readOne_134 q_M_readAnd q_M_readBracket q_M_readNot q_M_readOne q_M_readOr l2 l3 σ = some r) : Fr s_M_readAnd σ r.2 := by
  unfold f_M_readOne_134 at h
  obtain ⟨r20, σ21, e1, h⟩ := xbW_ex h
  have F1 : Fr s_M_readAnd σ σ21 := Fr.call Fr.rf (fr_M_saysOne e1) (rfl)
  obtain ⟨σ22, e2, h⟩ := xlet_ex h
  have F2 : Fr s_M_readAnd σ σ22 := Fr.up F1 e2 (rfl)
  exact Fr.call F2 (fr_M_readOne_172 hq_M_readAnd hq_M_readBracket hq_M_readNot hq_M_readOne hq_M_readOr h) (subL_rf _)
theorem fr_M_readOne_171 {q_M_readAnd : (xSt → Option (Int × xSt))} {q_M_readBracket : (xSt → Option (Int × xSt))} {q_M_readNot : (xSt → Option (Int × xSt))} {q_M_readOne : (xSt → Option (Int × xSt))} {q_M_readOr : (xSt → Option (Int × xSt))} {s0 : Int} (hq_M_readAnd : ∀ {σ : xSt} {r : (Int × xSt)}, q_M_readAnd σ = some r → Fr s_M_readAnd σ r.2) (hq_M_readBracket : ∀ {σ : xSt} {r : (Int × xSt)}, q_M_readBracket σ = some r → Fr s_M_readAnd σ r.2) (hq_M_readNot : ∀ {σ : xSt} {r : (Int × xSt)}, q_M_readNot σ = some r → Fr s_M_readAnd σ r.2) (hq_M_readOne : ∀ {σ : xSt} {r : (Int × xSt)}, q_M_readOne σ = some r → Fr s_M_readAnd σ r.2) (hq_M_readOr : ∀ {σ : xSt} {r : (Int × xSt)}, q_M_readOr σ = some r → Fr s_M_readAnd σ r.2) {σ : xSt} {r : (Int × xSt)} (h : f_M_readOne_171 q_M_readAnd q_M_readBracket q_M_readNot q_M_readOne q_M_readOr s0 σ = some r) : Fr s_M_readAnd σ r.2 := by
  unfold f_M_readOne_171 at h
  exact Fr.call Fr.rf (fr_M_readOne_172 hq_M_readAnd hq_M_readBracket hq_M_readNot hq_M_readOne hq_M_readOr h) (subL_rf _)
theorem fr_M_readOne_46 {q_M_readAnd : (xSt → Option (Int × xSt))} {q_M_readBracket : (xSt → Option (Int × xSt))} {q_M_readNot : (xSt → Option (Int × xSt))} {q_M_readOne : (xSt → Option (Int × xSt))} {q_M_readOr : (xSt → Option (Int × xSt))} {l1 : Int} {l2 : Int} (hq_M_readAnd : ∀ {σ : xSt} {r : (Int × xSt)}, q_M_readAnd σ = some r → Fr s_M_readAnd σ r.2) (hq_M_readBracket : ∀ {σ : xSt} {r : (Int × xSt)}, q_M_readBracket σ = some r → Fr s_M_readAnd σ r.2) (hq_M_readNot : ∀ {σ : xSt} {r : (Int × xSt)}, q_M_readNot σ = some r → Fr s_M_readAnd σ r.2) (hq_M_readOne : ∀ {σ : xSt} {r : (Int × xSt)}, q_M_readOne σ = some r → Fr s_M_readAnd σ r.2) (hq_M_readOr : ∀ {σ : xSt} {r : (Int × xSt)}, q_M_readOr σ = some r → Fr s_M_readAnd σ r.2) {σ : xSt} {r : (Int × xSt)} (h : f_M_readOne_46 q_M_readAnd q_M_readBracket q_M_readNot q_M_readOne q_M_readOr l1 l2 σ = some r) : Fr s_M_readAnd σ r.2 := by
  unfold f_M_readOne_46 at h
  rcases ite_ex h with ⟨-, h⟩ | ⟨-, h⟩
  · exact Fr.call Fr.rf (fr_M_readOne_64 hq_M_readAnd hq_M_readBracket hq_M_readNot hq_M_readOne hq_M_readOr h) (subL_rf _)
  · rcases ite_ex h with ⟨-, h⟩ | ⟨-, h⟩
    · exact Fr.call Fr.rf (fr_M_readOne_64 hq_M_readAnd hq_M_readBracket hq_M_readNot hq_M_readOne hq_M_readOr h) (subL_rf _)
    · obtain ⟨σ6, e1, h⟩ := xlet_ex h
      have F1 : Fr s_M_readAnd σ σ6 := Fr.up Fr.rf e1 (rfl)
      obtain ⟨σ7, e2, h⟩ := xlet_ex h
      have F2 : Fr s_M_readAnd σ σ7 := Fr.up F1 e2 (rfl)
      obtain ⟨σ8, e3, h⟩ := xbR_ex h
      have F3 : Fr s_M_readAnd σ σ8 := Fr.call F2 (fr_M_go e3) (rfl)
      rcases ite_ex h with ⟨-, h⟩ | ⟨-, h⟩
      · rcases ite_ex h with ⟨-, h⟩ | ⟨-, h⟩
        · obtain ⟨r9, σ10, e4, h⟩ := xbW_ex h
          have F4 : Fr s_M_readAnd σ σ10 := Fr.call F3 (hq_M_readNot e4) (rfl)
          exact Fr.call F4 (fr_M_readOne_172 hq_M_readAnd hq_M_readBracket hq_M_readNot hq_M_readOne hq_M_readOr h) (subL_rf _)
        · rcases ite_ex h with ⟨-, h⟩ | ⟨-, h⟩
          · exact Fr.call F3 (fr_M_readOne_134 hq_M_readAnd hq_M_readBracket hq_M_readNot hq_M_readOne hq_M_readOr h) (subL_rf _)
          · rcases ite_ex h with ⟨-, h⟩ | ⟨-, h⟩
            · exact Fr.call F3 (fr_M_readOne_134 hq_M_readAnd hq_M_readBracket hq_M_readNot hq_M_readOne hq_M_readOr h) (subL_rf _)
            · rcases ite_ex h with ⟨-, h⟩ | ⟨-, h⟩
              · obtain ⟨r11, σ12, e5, h⟩ := xbW_ex h
                have F5 : Fr s_M_readAnd σ σ12 := Fr.call F3 (fr_M_readNamed e5) (rfl)
                exact Fr.call F5 (fr_M_readOne_171 hq_M_readAnd hq_M_readBracket hq_M_readNot hq_M_readOne hq_M_readOr h) (subL_rf _)
              · obtain ⟨r13, σ14, e6, h⟩ := xbW_ex h
                have F6 : Fr s_M_readAnd σ σ14 := Fr.call F3 (fr_M_readCompare e6) (rfl)
                exact Fr.call F6 (fr_M_readOne_171 hq_M_readAnd hq_M_readBracket hq_M_readNot hq_M_readOne hq_M_readOr h) (subL_rf _)
      · obtain ⟨r15, σ16, e7, h⟩ := xbW_ex h
        have F7 : Fr s_M_readAnd σ σ16 := Fr.call F3 (hq_M_readBracket e7) (rfl)
        exact Fr.call F7 (fr_M_readOne_172 hq_M_readAnd hq_M_readBracket hq_M_readNot hq_M_readOne hq_M_readOr h) (subL_rf _)
theorem fr_M_readOne_30 {q_M_readAnd : (xSt → Option (Int × xSt))} {q_M_readBracket : (xSt → Option (Int × xSt))} {q_M_readNot : (xSt → Option (Int × xSt))} {q_M_readOne : (xSt → Option (Int × xSt))} {q_M_readOr : (xSt → Option (Int × xSt))} {l1 : Int} {l2 : Int} (hq_M_readAnd : ∀ {σ : xSt} {r : (Int × xSt)}, q_M_readAnd σ = some r → Fr s_M_readAnd σ r.2) (hq_M_readBracket : ∀ {σ : xSt} {r : (Int × xSt)}, q_M_readBracket σ = some r → Fr s_M_readAnd σ r.2) (hq_M_readNot : ∀ {σ : xSt} {r : (Int × xSt)}, q_M_readNot σ = some r → Fr s_M_readAnd σ r.2) (hq_M_readOne : ∀ {σ : xSt} {r : (Int × xSt)}, q_M_readOne σ = some r → Fr s_M_readAnd σ r.2) (hq_M_readOr : ∀ {σ : xSt} {r : (Int × xSt)}, q_M_readOr σ = some r → Fr s_M_readAnd σ r.2) {σ : xSt} {r : (Int × xSt)} (h : f_M_readOne_30 q_M_readAnd q_M_readBracket q_M_readNot q_M_readOne q_M_readOr l1 l2 σ = some r) : Fr s_M_readAnd σ r.2 := by
  unfold f_M_readOne_30 at h
  rcases ite_ex h with ⟨-, h⟩ | ⟨-, h⟩
  · rcases ite_ex h with ⟨-, h⟩ | ⟨-, h⟩
    · obtain ⟨r4, σ5, e1, h⟩ := xbW_ex h
      have F1 : Fr s_M_readAnd σ σ5 := Fr.call Fr.rf (fr_M_bad e1) (rfl)
      cases h
      exact F1
    · exact Fr.call Fr.rf (fr_M_readOne_46 hq_M_readAnd hq_M_readBracket hq_M_readNot hq_M_readOne hq_M_readOr h) (subL_rf _)
  · exact Fr.call Fr.rf (fr_M_readOne_46 hq_M_readAnd hq_M_readBracket hq_M_readNot hq_M_readOne hq_M_readOr h) (subL_rf _)
theorem fr_M_readOne_10 {q_M_readAnd : (xSt → Option (Int × xSt))} {q_M_readBracket : (xSt → Option (Int × xSt))} {q_M_readNot : (xSt → Option (Int × xSt))} {q_M_readOne : (xSt → Option (Int × xSt))} {q_M_readOr : (xSt → Option (Int × xSt))} (hq_M_readAnd : ∀ {σ : xSt} {r : (Int × xSt)}, q_M_readAnd σ = some r → Fr s_M_readAnd σ r.2) (hq_M_readBracket : ∀ {σ : xSt} {r : (Int × xSt)}, q_M_readBracket σ = some r → Fr s_M_readAnd σ r.2) (hq_M_readNot : ∀ {σ : xSt} {r : (Int × xSt)}, q_M_readNot σ = some r → Fr s_M_readAnd σ r.2) (hq_M_readOne : ∀ {σ : xSt} {r : (Int × xSt)}, q_M_readOne σ = some r → Fr s_M_readAnd σ r.2) (hq_M_readOr : ∀ {σ : xSt} {r : (Int × xSt)}, q_M_readOr σ = some r → Fr s_M_readAnd σ r.2) : ∀ (n : Nat) {l1 : Int} {l2 : Int} {σ : xSt} {r : (Int × xSt)}, f_M_readOne_10 q_M_readAnd q_M_readBracket q_M_readNot q_M_readOne q_M_readOr n l1 l2 σ = some r → Fr s_M_readAnd σ r.2 := by
  intro n
  induction n with
  | zero => exact fun h => nomatch h
  | succ n ih =>
    intro l1 l2 σ r h
    unfold f_M_readOne_10 at h
    rcases ite_ex h with ⟨-, h⟩ | ⟨-, h⟩
    · exact Fr.call Fr.rf (fr_M_readOne_30 hq_M_readAnd hq_M_readBracket hq_M_readNot hq_M_readOne hq_M_readOr h) (subL_rf _)
    · obtain ⟨r2, -, h⟩ := xbR_ex h
      rcases ite_ex h with ⟨-, h⟩ | ⟨-, h⟩
      · obtain ⟨x3, -, h⟩ := xlet_ex h
        exact Fr.call Fr.rf (ih h) (subL_rf _)
      · exact Fr.call Fr.rf (fr_M_readOne_30 hq_M_readAnd hq_M_readBracket hq_M_readNot hq_M_readOne hq_M_readOr h) (subL_rf _)
theorem fr0_M_readOne {q_M_readAnd : (xSt → Option (Int × xSt))} {q_M_readBracket : (xSt → Option (Int × xSt))} {q_M_readNot : (xSt → Option (Int × xSt))} {q_M_readOne : (xSt → Option (Int × xSt))} {q_M_readOr : (xSt → Option (Int × xSt))} (hq_M_readAnd : ∀ {σ : xSt} {r : (Int × xSt)}, q_M_readAnd σ = some r → Fr s_M_readAnd σ r.2) (hq_M_readBracket : ∀ {σ : xSt} {r : (Int × xSt)}, q_M_readBracket σ = some r → Fr s_M_readAnd σ r.2) (hq_M_readNot : ∀ {σ : xSt} {r : (Int × xSt)}, q_M_readNot σ = some r → Fr s_M_readAnd σ r.2) (hq_M_readOne : ∀ {σ : xSt} {r : (Int × xSt)}, q_M_readOne σ = some r → Fr s_M_readAnd σ r.2) (hq_M_readOr : ∀ {σ : xSt} {r : (Int × xSt)}, q_M_readOr σ = some r → Fr s_M_readAnd σ r.2) {σ : xSt} {r : (Int × xSt)} (h : f0_M_readOne q_M_readAnd q_M_readBracket q_M_readNot q_M_readOne q_M_readOr σ = some r) : Fr s_M_readAnd σ r.2 := by
  unfold f0_M_readOne at h
  obtain ⟨r1, -, h⟩ := xbR_ex h
  exact Fr.call Fr.rf (fr_M_readOne_10 hq_M_readAnd hq_M_readBracket hq_M_readNot hq_M_readOne hq_M_readOr _ h) (subL_rf _)
theorem fr_M_readOr_14 {q_M_readAnd : (xSt → Option (Int × xSt))} {q_M_readBracket : (xSt → Option (Int × xSt))} {q_M_readNot : (xSt → Option (Int × xSt))} {q_M_readOne : (xSt → Option (Int × xSt))} {q_M_readOr : (xSt → Option (Int × xSt))} (hq_M_readAnd : ∀ {σ : xSt} {r : (Int × xSt)}, q_M_readAnd σ = some r → Fr s_M_readAnd σ r.2) (hq_M_readBracket : ∀ {σ : xSt} {r : (Int × xSt)}, q_M_readBracket σ = some r → Fr s_M_readAnd σ r.2) (hq_M_readNot : ∀ {σ : xSt} {r : (Int × xSt)}, q_M_readNot σ = some r → Fr s_M_readAnd σ r.2) (hq_M_readOne : ∀ {σ : xSt} {r : (Int × xSt)}, q_M_readOne σ = some r → Fr s_M_readAnd σ r.2) (hq_M_readOr : ∀ {σ : xSt} {r : (Int × xSt)}, q_M_readOr σ = some r → Fr s_M_readAnd σ r.2) : ∀ (n : Nat) {l1 : Int} {σ : xSt} {r : (Int × xSt)}, f_M_readOr_14 q_M_readAnd q_M_readBracket q_M_readNot q_M_readOne q_M_readOr n l1 σ = some r → Fr s_M_readAnd σ r.2 := by
  intro n
  induction n with
  | zero => exact fun h => nomatch h
  | succ n ih =>
    intro l1 σ r h
    unfold f_M_readOr_14 at h
    obtain ⟨r4, -, h⟩ := xbR_ex h
    rcases ite_ex h with ⟨-, h⟩ | ⟨-, h⟩
    · obtain ⟨σ5, e2, h⟩ := xlet_ex h
      have F2 : Fr s_M_readAnd σ σ5 := Fr.up Fr.rf e2 (rfl)
      cases h
      exact F2
    · obtain ⟨σ6, e3, h⟩ := xbR_ex h
      have F3 : Fr s_M_readAnd σ σ6 := Fr.call Fr.rf (fr_M_go e3) (rfl)
      obtain ⟨r7, σ8, e4, h⟩ := xbW_ex h
      have F4 : Fr s_M_readAnd σ σ8 := Fr.call F3 (hq_M_readAnd e4) (rfl)
      rcases ite_ex h with ⟨-, h⟩ | ⟨-, h⟩
      · cases h
        exact F4
      · obtain ⟨r9, σ10, e5, h⟩ := xbW_ex h
        have F5 : Fr s_M_readAnd σ σ10 := Fr.call F4 (fr_M_saysOne e5) (rfl)
        exact Fr.call F5 (ih h) (subL_rf _)
theorem fr0_M_readOr {q_M_readAnd : (xSt → Option (Int × xSt))} {q_M_readBracket : (xSt → Option (Int × xSt))} {q_M_readNot : (xSt → Option (Int × xSt))} {q_M_readOne : (xSt → Option (Int × xSt))} {q_M_readOr : (xSt → Option (Int × xSt))} (hq_M_readAnd : ∀ {σ : xSt} {r : (Int × xSt)}, q_M_readAnd σ = some r → Fr s_M_readAnd σ r.2) (hq_M_readBracket : ∀ {σ : xSt} {r : (Int × xSt)}, q_M_readBracket σ = some r → Fr s_M_readAnd σ r.2) (hq_M_readNot : ∀ {σ : xSt} {r : (Int × xSt)}, q_M_readNot σ = some r → Fr s_M_readAnd σ r.2) (hq_M_readOne : ∀ {σ : xSt} {r : (Int × xSt)}, q_M_readOne σ = some r → Fr s_M_readAnd σ r.2) (hq_M_readOr : ∀ {σ : xSt} {r : (Int × xSt)}, q_M_readOr σ = some r → Fr s_M_readAnd σ r.2) {σ : xSt} {r : (Int × xSt)} (h : f0_M_readOr q_M_readAnd q_M_readBracket q_M_readNot q_M_readOne q_M_readOr σ = some r) : Fr s_M_readAnd σ r.2 := by
  unfold f0_M_readOr at h
  obtain ⟨r1, σ2, e1, h⟩ := xbW_ex h
  have F1 : Fr s_M_readAnd σ σ2 := Fr.call Fr.rf (hq_M_readAnd e1) (rfl)
  rcases ite_ex h with ⟨-, h⟩ | ⟨-, h⟩
  · cases h
    exact F1
  · obtain ⟨x3, -, h⟩ := xlet_ex h
    exact Fr.call F1 (fr_M_readOr_14 hq_M_readAnd hq_M_readBracket hq_M_readNot hq_M_readOne hq_M_readOr _ h) (subL_rf _)
theorem frg_M_readAnd : ∀ n, (∀ {σ : xSt} {r : (Int × xSt)}, f_M_readAnd n σ = some r → Fr s_M_readAnd σ r.2) ∧ (∀ {σ : xSt} {r : (Int × xSt)}, f_M_readBracket n σ = some r → Fr s_M_readAnd σ r.2) ∧ (∀ {σ : xSt} {r : (Int × xSt)}, f_M_readNot n σ = some r → Fr s_M_readAnd σ r.2) ∧ (∀ {σ : xSt} {r : (Int × xSt)}, f_M_readOne n σ = some r → Fr s_M_readAnd σ r.2) ∧ (∀ {σ : xSt} {r : (Int × xSt)}, f_M_readOr n σ = some r → Fr s_M_readAnd σ r.2) := by
  intro n
  induction n with
  | zero => exact ⟨(fun h => nomatch h), (fun h => nomatch h), (fun h => nomatch h), (fun h => nomatch h), (fun h => nomatch h)⟩
  | succ n ih =>
    obtain ⟨i0, i1, i2, i3, i4⟩ := ih
    exact ⟨(fun h => fr0_M_readAnd (q_M_readAnd := ((g_M_readAnd n).1)) (q_M_readBracket := ((g_M_readAnd n).2.1)) (q_M_readNot := ((g_M_readAnd n).2.2.1)) (q_M_readOne := ((g_M_readAnd n).2.2.2.1)) (q_M_readOr := ((g_M_readAnd n).2.2.2.2)) (fun h => i0 h) (fun h => i1 h) (fun h => i2 h) (fun h => i3 h) (fun h => i4 h) h), (fun h => fr0_M_readBracket (q_M_readAnd := ((g_M_readAnd n).1)) (q_M_readBracket := ((g_M_readAnd n).2.1)) (q_M_readNot := ((g_M_readAnd n).2.2.1)) (q_M_readOne := ((g_M_readAnd n).2.2.2.1)) (q_M_readOr := ((g_M_readAnd n).2.2.2.2)) (fun h => i0 h) (fun h => i1 h) (fun h => i2 h) (fun h => i3 h) (fun h => i4 h) h), (fun h => fr0_M_readNot (q_M_readAnd := ((g_M_readAnd n).1)) (q_M_readBracket := ((g_M_readAnd n).2.1)) (q_M_readNot := ((g_M_readAnd n).2.2.1)) (q_M_readOne := ((g_M_readAnd n).2.2.2.1)) (q_M_readOr := ((g_M_readAnd n).2.2.2.2)) (fun h => i0 h) (fun h => i1 h) (fun h => i2 h) (fun h => i3 h) (fun h => i4 h) h), (fun h => fr0_M_readOne (q_M_readAnd := ((g_M_readAnd n).1)) (q_M_readBracket := ((g_M_readAnd n).2.1)) (q_M_readNot := ((g_M_readAnd n).2.2.1)) (q_M_readOne := ((g_M_readAnd n).2.2.2.1)) (q_M_readOr := ((g_M_readAnd n).2.2.2.2)) (fun h => i0 h) (fun h => i1 h) (fun h => i2 h) (fun h => i3 h) (fun h => i4 h) h), (fun h => fr0_M_readOr (q_M_readAnd := ((g_M_readAnd n).1)) (q_M_readBracket := ((g_M_readAnd n).2.1)) (q_M_readNot := ((g_M_readAnd n).2.2.1)) (q_M_readOne := ((g_M_readAnd n).2.2.2.1)) (q_M_readOr := ((g_M_readAnd n).2.2.2.2)) (fun h => i0 h) (fun h => i1 h) (fun h => i2 h) (fun h => i3 h) (fun h => i4 h) h)⟩
theorem fr_M_readAnd {n : Nat} {σ : xSt} {r : (Int × xSt)} (h : f_M_readAnd n σ = some r) : Fr s_M_readAnd σ r.2 := (frg_M_readAnd _).1 h
theorem fr_M_readBracket {n : Nat} {σ : xSt} {r : (Int × xSt)} (h : f_M_readBracket n σ = some r) : Fr s_M_readAnd σ r.2 := (frg_M_readAnd _).2.1 h
theorem fr_M_readNot {n : Nat} {σ : xSt} {r : (Int × xSt)} (h : f_M_readNot n σ = some r) : Fr s_M_readAnd σ r.2 := (frg_M_readAnd _).2.2.1 h
theorem fr_M_readOne {n : Nat} {σ : xSt} {r : (Int × xSt)} (h : f_M_readOne n σ = some r) : Fr s_M_readAnd σ r.2 := (frg_M_readAnd _).2.2.2.1 h
theorem fr_M_readOr {n : Nat} {σ : xSt} {r : (Int × xSt)} (h : f_M_readOr n σ = some r) : Fr s_M_readAnd σ r.2 := (frg_M_readAnd _).2.2.2.2 h
theorem fr_M_sentence_79 : ∀ (n : Nat) {l1 : Int} {σ : xSt} {r : (Int × xSt)}, f_M_sentence_79  n l1 σ = some r → Fr s_M_sentence σ r.2 := by
  intro n
  induction n with
  | zero => exact fun h => nomatch h
  | succ n ih =>
    intro l1 σ r h
    unfold f_M_sentence_79 at h
    rcases ite_ex h with ⟨-, h⟩ | ⟨-, h⟩
    · obtain ⟨-, h⟩ := gu_ex h
      obtain ⟨-, h⟩ := gu_ex h
      obtain ⟨σ11, e1, h⟩ := xlet_ex h
      have F1 : Fr s_M_sentence σ σ11 := Fr.up Fr.rf e1 (rfl)
      obtain ⟨x12, -, h⟩ := xlet_ex h
      exact Fr.call F1 (ih h) (subL_rf _)
    · cases h
      exact Fr.rf
theorem fr_M_sentence {σ : xSt} {r : (Int × xSt)} (h : f_M_sentence σ = some r) : Fr s_M_sentence σ r.2 := by
  unfold f_M_sentence at h
  obtain ⟨σ1, e1, h⟩ := xbR_ex h
  have F1 : Fr s_M_sentence σ σ1 := Fr.call Fr.rf (fr_M_begin e1) (rfl)
  obtain ⟨σ2, e2, h⟩ := xlet_ex h
  have F2 : Fr s_M_sentence σ σ2 := Fr.up F1 e2 (rfl)
  obtain ⟨σ3, e3, h⟩ := xlet_ex h
  have F3 : Fr s_M_sentence σ σ3 := Fr.up F2 e3 (rfl)
  obtain ⟨σ4, e4, h⟩ := xlet_ex h
  have F4 : Fr s_M_sentence σ σ4 := Fr.up F3 e4 (rfl)
  obtain ⟨r5, σ6, e5, h⟩ := xbW_ex h
  have F5 : Fr s_M_sentence σ σ6 := Fr.call F4 (fr_M_readOr e5) (rfl)
  rcases ite_ex h with ⟨-, h⟩ | ⟨-, h⟩
  · cases h
    exact F5
  · rcases ite_ex h with ⟨-, h⟩ | ⟨-, h⟩
    · obtain ⟨σ7, e6, h⟩ := xlet_ex h
      have F6 : Fr s_M_sentence σ σ7 := Fr.up F5 e6 (rfl)
      obtain ⟨σ8, e7, h⟩ := xlet_ex h
      have F7 : Fr s_M_sentence σ σ8 := Fr.up F6 e7 (rfl)
      exact Fr.call F7 (fr_M_sentence_79 _ h) (subL_rf _)
    · obtain ⟨r9, σ10, e8, h⟩ := xbW_ex h
      have F8 : Fr s_M_sentence σ σ10 := Fr.call F5 (fr_M_bad e8) (rfl)
      cases h
      exact F8
theorem fr_M_said_33 : ∀ (n : Nat) {l1 : Int} {l2 : Int} {l3 : Int} {σ : xSt} {r : (Int × xSt)}, f_M_said_33  n l1 l2 l3 σ = some r → Fr s_M_said σ r.2 := by
  intro n
  induction n with
  | zero => exact fun h => nomatch h
  | succ n ih =>
    intro l1 l2 l3 σ r h
    unfold f_M_said_33 at h
    obtain ⟨r4, -, h⟩ := xbR_ex h
    rcases ite_ex h with ⟨-, h⟩ | ⟨-, h⟩
    · obtain ⟨r5, -, h⟩ := xbR_ex h
      rcases ite_ex h with ⟨-, h⟩ | ⟨-, h⟩
      · obtain ⟨x6, -, h⟩ := xlet_ex h
        exact Fr.call Fr.rf (ih h) (subL_rf _)
      · rcases ite_ex h with ⟨-, h⟩ | ⟨-, h⟩
        · cases h
          exact Fr.rf
        · obtain ⟨x7, -, h⟩ := xlet_ex h
          obtain ⟨x8, -, h⟩ := xlet_ex h
          exact Fr.call Fr.rf (ih h) (subL_rf _)
    · rcases ite_ex h with ⟨-, h⟩ | ⟨-, h⟩
      · cases h
        exact Fr.rf
      · cases h
        exact Fr.rf
theorem fr_M_said {p1 : Int} {σ : xSt} {r : (Int × xSt)} (h : f_M_said p1 σ = some r) : Fr s_M_said σ r.2 := by
  unfold f_M_said at h
  obtain ⟨σ1, e1, h⟩ := xlet_ex h
  have F1 : Fr s_M_said σ σ1 := Fr.up Fr.rf e1 (rfl)
  rcases ite_ex h with ⟨-, h⟩ | ⟨-, h⟩
  · cases h
    exact F1
  · obtain ⟨r2, -, h⟩ := xbR_ex h
    rcases ite_ex h with ⟨-, h⟩ | ⟨-, h⟩
    · cases h
      exact F1
    · obtain ⟨σ3, e3, h⟩ := xbR_ex h
      have F3 : Fr s_M_said σ σ3 := Fr.call F1 (fr_M_layPowers e3) (rfl)
      exact Fr.call F3 (fr_M_said_33 _ h) (subL_rf _)
theorem fr_M_image_55 : ∀ (n : Nat) {l1 : Int} {l2 : Int} {σ : xSt} {r : (Int × xSt)}, f_M_image_55  n l1 l2 σ = some r → Fr s_M_image σ r.2 := by
  intro n
  induction n with
  | zero => exact fun h => nomatch h
  | succ n ih =>
    intro l1 l2 σ r h
    unfold f_M_image_55 at h
    rcases ite_ex h with ⟨-, h⟩ | ⟨-, h⟩
    · obtain ⟨-, h⟩ := gu_ex h
      obtain ⟨-, h⟩ := gu_ex h
      obtain ⟨σ6, e1, h⟩ := xlet_ex h
      have F1 : Fr s_M_image σ σ6 := Fr.up Fr.rf e1 (rfl)
      obtain ⟨x7, -, h⟩ := xlet_ex h
      exact Fr.call F1 (ih h) (subL_rf _)
    · obtain ⟨-, h⟩ := gu_ex h
      obtain ⟨σ8, e2, h⟩ := xlet_ex h
      have F2 : Fr s_M_image σ σ8 := Fr.up Fr.rf e2 (rfl)
      cases h
      exact F2
theorem fr_M_image_22 : ∀ (n : Nat) {l1 : Int} {l2 : Int} {σ : xSt} {r : (Int × xSt)}, f_M_image_22  n l1 l2 σ = some r → Fr s_M_image σ r.2 := by
  intro n
  induction n with
  | zero => exact fun h => nomatch h
  | succ n ih =>
    intro l1 l2 σ r h
    unfold f_M_image_22 at h
    rcases ite_ex h with ⟨-, h⟩ | ⟨-, h⟩
    · obtain ⟨-, h⟩ := gu_ex h
      obtain ⟨-, h⟩ := gu_ex h
      obtain ⟨σ4, e1, h⟩ := xlet_ex h
      have F1 : Fr s_M_image σ σ4 := Fr.up Fr.rf e1 (rfl)
      obtain ⟨x5, -, h⟩ := xlet_ex h
      exact Fr.call F1 (ih h) (subL_rf _)
    · exact Fr.call Fr.rf (fr_M_image_55 _ h) (subL_rf _)
theorem fr_M_image {p1 : Int} {σ : xSt} {r : (Int × xSt)} (h : f_M_image p1 σ = some r) : Fr s_M_image σ r.2 := by
  unfold f_M_image at h
  obtain ⟨σ1, e1, h⟩ := xlet_ex h
  have F1 : Fr s_M_image σ σ1 := Fr.up Fr.rf e1 (rfl)
  obtain ⟨σ2, e2, h⟩ := xbR_ex h
  have F2 : Fr s_M_image σ σ2 := Fr.call F1 (fr_M_lay e2) (rfl)
  obtain ⟨r3, -, h⟩ := xbR_ex h
  rcases ite_ex h with ⟨-, h⟩ | ⟨-, h⟩
  · cases h
    exact F2
  · exact Fr.call F2 (fr_M_image_22 _ h) (subL_rf _)
theorem fr_M_restore_64 : ∀ (n : Nat) {l1 : Int} {l2 : Int} {σ : xSt} {r : (Int × xSt)}, f_M_restore_64  n l1 l2 σ = some r → Fr s_M_restore σ r.2 := by
  intro n
  induction n with
  | zero => exact fun h => nomatch h
  | succ n ih =>
    intro l1 l2 σ r h
    unfold f_M_restore_64 at h
    rcases ite_ex h with ⟨-, h⟩ | ⟨-, h⟩
    · obtain ⟨-, h⟩ := gu_ex h
      obtain ⟨-, h⟩ := gu_ex h
      obtain ⟨σ6, e1, h⟩ := xlet_ex h
      have F1 : Fr s_M_restore σ σ6 := Fr.up Fr.rf e1 (rfl)
      obtain ⟨x7, -, h⟩ := xlet_ex h
      exact Fr.call F1 (ih h) (subL_rf _)
    · cases h
      exact Fr.rf
theorem fr_M_restore_31 : ∀ (n : Nat) {l1 : Int} {l2 : Int} {σ : xSt} {r : (Int × xSt)}, f_M_restore_31  n l1 l2 σ = some r → Fr s_M_restore σ r.2 := by
  intro n
  induction n with
  | zero => exact fun h => nomatch h
  | succ n ih =>
    intro l1 l2 σ r h
    unfold f_M_restore_31 at h
    rcases ite_ex h with ⟨-, h⟩ | ⟨-, h⟩
    · obtain ⟨-, h⟩ := gu_ex h
      obtain ⟨-, h⟩ := gu_ex h
      obtain ⟨σ4, e1, h⟩ := xlet_ex h
      have F1 : Fr s_M_restore σ σ4 := Fr.up Fr.rf e1 (rfl)
      obtain ⟨x5, -, h⟩ := xlet_ex h
      exact Fr.call F1 (ih h) (subL_rf _)
    · exact Fr.call Fr.rf (fr_M_restore_64 _ h) (subL_rf _)
theorem fr_M_restore {p1 : Int} {σ : xSt} {r : (Int × xSt)} (h : f_M_restore p1 σ = some r) : Fr s_M_restore σ r.2 := by
  unfold f_M_restore at h
  obtain ⟨σ1, e1, h⟩ := xlet_ex h
  have F1 : Fr s_M_restore σ σ1 := Fr.up Fr.rf e1 (rfl)
  obtain ⟨σ2, e2, h⟩ := xbR_ex h
  have F2 : Fr s_M_restore σ σ2 := Fr.call F1 (fr_M_lay e2) (rfl)
  obtain ⟨r3, -, h⟩ := xbR_ex h
  rcases ite_ex h with ⟨-, h⟩ | ⟨-, h⟩
  · cases h
    exact F2
  · obtain ⟨-, h⟩ := gu_ex h
    rcases ite_ex h with ⟨-, h⟩ | ⟨-, h⟩
    · cases h
      exact F2
    · exact Fr.call F2 (fr_M_restore_31 _ h) (subL_rf _)
