/-! printed by wip/whole/mk50.py -/
theorem fr_Best_weigh {p1 : Int} {p2 : Int} {p3 : Int} {p4 : Int} {p5 : Int} {σ : xSt} {r : (xSt)} (h : f_Best_weigh p1 p2 p3 p4 p5 σ = some r) : Fr s_Best_weigh σ r := by
  unfold f_Best_weigh at h
  obtain ⟨r1, -, h⟩ := xbR_ex h
  rcases ite_ex h with ⟨-, h⟩ | ⟨-, h⟩
  · cases h
    exact Fr.rf
  · obtain ⟨r2, -, h⟩ := xbR_ex h
    rcases ite_ex h with ⟨-, h⟩ | ⟨-, h⟩
    · cases h
      exact Fr.rf
    · obtain ⟨-, h⟩ := gu_ex h
      obtain ⟨x3, -, h⟩ := xlet_ex h
      obtain ⟨-, h⟩ := gu_ex h
      obtain ⟨x4, -, h⟩ := xlet_ex h
      obtain ⟨-, h⟩ := gu_ex h
      obtain ⟨-, h⟩ := gu_ex h
      obtain ⟨x5, -, h⟩ := xlet_ex h
      rcases ite_ex h with ⟨-, h⟩ | ⟨-, h⟩
      · cases h
        exact Fr.rf
      · obtain ⟨-, h⟩ := gu_ex h
        obtain ⟨-, h⟩ := gu_ex h
        rcases ite_ex h with ⟨-, h⟩ | ⟨-, h⟩
        · obtain ⟨r6, -, h⟩ := xbR_ex h
          obtain ⟨r7, -, h⟩ := xbR_ex h
          obtain ⟨x8, -, h⟩ := xlet_ex h
          obtain ⟨-, h⟩ := gu_ex h
          obtain ⟨-, h⟩ := gu_ex h
          obtain ⟨x9, -, h⟩ := xlet_ex h
          obtain ⟨x10, -, h⟩ := xlet_ex h
          rcases ite_ex h with ⟨-, h⟩ | ⟨-, h⟩
          · exact Fr.call Fr.rf (fr_Best_weigh_178 h) (subL_rf _)
          · rcases ite_ex h with ⟨-, h⟩ | ⟨-, h⟩
            · exact Fr.call Fr.rf (fr_Best_weigh_178 h) (subL_rf _)
            · cases h
              exact Fr.rf
        · cases h
          exact Fr.rf
theorem fr_Best_searchCoin_13 {k3 : (Int → Int → Int → Int → xSt → Option (xSt))} (hk3 : ∀ {z0 : Int} {z1 : Int} {z2 : Int} {z3 : Int} {σ : xSt} {r : (xSt)}, k3 z0 z1 z2 z3 σ = some r → Fr s_Best_searchCoin σ r) : ∀ (n : Nat) {l1 : Int} {l2 : Int} {l3 : Int} {l4 : Int} {l5 : Int} {σ : xSt} {r : (xSt)}, f_Best_searchCoin_13 k3 n l1 l2 l3 l4 l5 σ = some r → Fr s_Best_searchCoin σ r := by
  intro n
  induction n with
  | zero => exact fun h => nomatch h
  | succ n ih =>
    intro l1 l2 l3 l4 l5 σ r h
    unfold f_Best_searchCoin_13 at h
    rcases ite_ex h with ⟨-, h⟩ | ⟨-, h⟩
    · obtain ⟨-, h⟩ := gu_ex h
      rcases ite_ex h with ⟨-, h⟩ | ⟨-, h⟩
      · obtain ⟨-, h⟩ := gu_ex h
        rcases ite_ex h with ⟨-, h⟩ | ⟨-, h⟩
        · obtain ⟨σ1, e1, h⟩ := xbR_ex h
          have F1 : Fr s_Best_searchCoin σ σ1 := Fr.call Fr.rf (fr_Best_weigh e1) (rfl)
          obtain ⟨x2, -, h⟩ := xlet_ex h
          exact Fr.call F1 (ih h) (subL_rf _)
        · obtain ⟨x3, -, h⟩ := xlet_ex h
          exact Fr.call Fr.rf (ih h) (subL_rf _)
      · obtain ⟨x4, -, h⟩ := xlet_ex h
        exact Fr.call Fr.rf (hk3 h) (rfl)
    · obtain ⟨x5, -, h⟩ := xlet_ex h
      exact Fr.call Fr.rf (hk3 h) (rfl)
theorem fr_Best_searchCoin_3 : ∀ (n : Nat) {l1 : Int} {l2 : Int} {l3 : Int} {l4 : Int} {σ : xSt} {r : (xSt)}, f_Best_searchCoin_3  n l1 l2 l3 l4 σ = some r → Fr s_Best_searchCoin σ r := by
  intro n
  induction n with
  | zero => exact fun h => nomatch h
  | succ n ih =>
    intro l1 l2 l3 l4 σ r h
    unfold f_Best_searchCoin_3 at h
    rcases ite_ex h with ⟨-, h⟩ | ⟨-, h⟩
    · exact Fr.call Fr.rf (fr_Best_searchCoin_13 (fun h => ih h) _ h) (subL_rf _)
    · cases h
      exact Fr.rf
theorem fr_Best_searchCoin {p1 : Int} {p2 : Int} {p3 : Int} {σ : xSt} {r : (xSt)} (h : f_Best_searchCoin p1 p2 p3 σ = some r) : Fr s_Best_searchCoin σ r := by
  unfold f_Best_searchCoin at h
  exact Fr.call Fr.rf (fr_Best_searchCoin_3 _ h) (subL_rf _)
theorem fr_Best_search_106 {σ : xSt} {r : (Int × xSt)} (h : f_Best_search_106 σ = some r) : Fr s_Best_search σ r.2 := by
  unfold f_Best_search_106 at h
  rcases ite_ex h with ⟨-, h⟩ | ⟨-, h⟩
  · cases h
    exact Fr.rf
  · obtain ⟨r15, σ16, e1, h⟩ := xbW_ex h
    have F1 : Fr s_Best_search σ σ16 := Fr.call Fr.rf (fr_Fraction_put e1) (rfl)
    rcases ite_ex h with ⟨-, h⟩ | ⟨-, h⟩
    · cases h
      exact F1
    · obtain ⟨σ17, e2, h⟩ := xlet_ex h
      have F2 : Fr s_Best_search σ σ17 := Fr.up F1 e2 (rfl)
      obtain ⟨σ18, e3, h⟩ := xlet_ex h
      have F3 : Fr s_Best_search σ σ18 := Fr.up F2 e3 (rfl)
      obtain ⟨σ19, e4, h⟩ := xlet_ex h
      have F4 : Fr s_Best_search σ σ19 := Fr.up F3 e4 (rfl)
      obtain ⟨σ20, e5, h⟩ := xlet_ex h
      have F5 : Fr s_Best_search σ σ20 := Fr.up F4 e5 (rfl)
      obtain ⟨r21, -, h⟩ := xbR_ex h
      obtain ⟨r22, -, h⟩ := xbR_ex h
      cases h
      exact F5
theorem fr_Best_search_59 : ∀ (n : Nat) {l2 : Int} {σ : xSt} {r : (Int × xSt)}, f_Best_search_59  n l2 σ = some r → Fr s_Best_search σ r.2 := by
  intro n
  induction n with
  | zero => exact fun h => nomatch h
  | succ n ih =>
    intro l2 σ r h
    unfold f_Best_search_59 at h
    rcases ite_ex h with ⟨-, h⟩ | ⟨-, h⟩
    · rcases ite_ex h with ⟨-, h⟩ | ⟨-, h⟩
      · exact Fr.call Fr.rf (fr_Best_search_106 h) (subL_rf _)
      · obtain ⟨r9, -, h⟩ := xbR_ex h
        rcases ite_ex h with ⟨-, h⟩ | ⟨-, h⟩
        · obtain ⟨x10, -, h⟩ := xlet_ex h
          exact Fr.call Fr.rf (ih h) (subL_rf _)
        · obtain ⟨r11, -, h⟩ := xbR_ex h
          obtain ⟨r12, -, h⟩ := xbR_ex h
          obtain ⟨σ13, e4, h⟩ := xbR_ex h
          have F4 : Fr s_Best_search σ σ13 := Fr.call Fr.rf (fr_Best_searchCoin e4) (rfl)
          obtain ⟨x14, -, h⟩ := xlet_ex h
          exact Fr.call F4 (ih h) (subL_rf _)
    · exact Fr.call Fr.rf (fr_Best_search_106 h) (subL_rf _)
theorem fr_Best_search_7 : ∀ (n : Nat) {l2 : Int} {σ : xSt} {r : (Int × xSt)}, f_Best_search_7  n l2 σ = some r → Fr s_Best_search σ r.2 := by
  intro n
  induction n with
  | zero => exact fun h => nomatch h
  | succ n ih =>
    intro l2 σ r h
    unfold f_Best_search_7 at h
    rcases ite_ex h with ⟨-, h⟩ | ⟨-, h⟩
    · obtain ⟨r2, -, h⟩ := xbR_ex h
      obtain ⟨-, h⟩ := gu_ex h
      obtain ⟨σ3, e2, h⟩ := xlet_ex h
      have F2 : Fr s_Best_search σ σ3 := Fr.up Fr.rf e2 (rfl)
      obtain ⟨r4, -, h⟩ := xbR_ex h
      obtain ⟨-, h⟩ := gu_ex h
      obtain ⟨σ5, e4, h⟩ := xlet_ex h
      have F4 : Fr s_Best_search σ σ5 := Fr.up F2 e4 (rfl)
      obtain ⟨r6, -, h⟩ := xbR_ex h
      obtain ⟨-, h⟩ := gu_ex h
      obtain ⟨σ7, e6, h⟩ := xlet_ex h
      have F6 : Fr s_Best_search σ σ7 := Fr.up F4 e6 (rfl)
      obtain ⟨x8, -, h⟩ := xlet_ex h
      exact Fr.call F6 (ih h) (subL_rf _)
    · exact Fr.call Fr.rf (fr_Best_search_59 _ h) (subL_rf _)
theorem fr_Best_search {σ : xSt} {r : (Int × xSt)} (h : f_Best_search σ = some r) : Fr s_Best_search σ r.2 := by
  unfold f_Best_search at h
  obtain ⟨σ1, e1, h⟩ := xlet_ex h
  have F1 : Fr s_Best_search σ σ1 := Fr.up Fr.rf e1 (rfl)
  exact Fr.call F1 (fr_Best_search_7 _ h) (subL_rf _)
theorem fr_X_best {σ : xSt} {r : (Int × xSt)} (h : f_X_best σ = some r) : Fr s_X_best σ r.2 := by
  unfold f_X_best at h
  obtain ⟨r1, σ2, e1, h⟩ := xbW_ex h
  have F1 : Fr s_X_best σ σ2 := Fr.call Fr.rf (fr_Best_search e1) (rfl)
  cases h
  exact F1
theorem fr_X_bestMean {p1 : Int} {σ : xSt} {r : (Option Int × xSt)} (h : f_X_bestMean p1 σ = some r) : Fr s_X_bestMean σ r.2 := by
  unfold f_X_bestMean at h
  rcases ite_ex h with ⟨-, h⟩ | ⟨-, h⟩
  · cases h
    exact Fr.rf
  · obtain ⟨r1, -, h⟩ := xbR_ex h
    rcases ite_ex h with ⟨-, h⟩ | ⟨-, h⟩
    · cases h
      exact Fr.rf
    · obtain ⟨r2, -, h⟩ := xbR_ex h
      cases h
      exact Fr.rf
theorem fr_Best_buildLeaf {p1 : Int} {p2 : Int} {p3 : Int} {σ : xSt} {r : (xSt)} (h : f_Best_buildLeaf p1 p2 p3 σ = some r) : Fr s_Best_buildLeaf σ r := by
  unfold f_Best_buildLeaf at h
  rcases ite_ex h with ⟨-, h⟩ | ⟨-, h⟩
  · obtain ⟨r1, σ2, e1, h⟩ := xbW_ex h
    have F1 : Fr s_Best_buildLeaf σ σ2 := Fr.call Fr.rf (fr_Way_add e1) (rfl)
    cases h
    exact F1
  · obtain ⟨r3, σ4, e2, h⟩ := xbW_ex h
    have F2 : Fr s_Best_buildLeaf σ σ4 := Fr.call Fr.rf (fr_Way_add e2) (rfl)
    cases h
    exact F2
theorem fr_Best_buildSide {p1 : Int} {p2 : Int} {p3 : Int} {σ : xSt} {r : (xSt)} (h : f_Best_buildSide p1 p2 p3 σ = some r) : Fr s_Best_buildSide σ r := by
  unfold f_Best_buildSide at h
  rcases ite_ex h with ⟨-, h⟩ | ⟨-, h⟩
  · obtain ⟨σ1, e1, h⟩ := xbR_ex h
    have F1 : Fr s_Best_buildSide σ σ1 := Fr.call Fr.rf (fr_Best_buildLeaf e1) (rfl)
    cases h
    exact F1
  · obtain ⟨r2, -, h⟩ := xbR_ex h
    obtain ⟨r3, σ4, e3, h⟩ := xbW_ex h
    have F3 : Fr s_Best_buildSide σ σ4 := Fr.call Fr.rf (fr_Way_add e3) (rfl)
    obtain ⟨r5, -, h⟩ := xbR_ex h
    obtain ⟨σ6, e5, h⟩ := xbR_ex h
    have F5 : Fr s_Best_buildSide σ σ6 := Fr.call F3 (fr_Best_buildLeaf e5) (rfl)
    obtain ⟨r7, -, h⟩ := xbR_ex h
    obtain ⟨σ8, e7, h⟩ := xbR_ex h
    have F7 : Fr s_Best_buildSide σ σ8 := Fr.call F5 (fr_Best_buildLeaf e7) (rfl)
    cases h
    exact F7
theorem fr_Best_build {σ : xSt} {r : (xSt)} (h : f_Best_build σ = some r) : Fr s_Best_build σ r := by
  unfold f_Best_build at h
  obtain ⟨σ1, e1, h⟩ := xbR_ex h
  have F1 : Fr s_Best_build σ σ1 := Fr.call Fr.rf (fr_Way_clear e1) (rfl)
  obtain ⟨r2, σ3, e2, h⟩ := xbW_ex h
  have F2 : Fr s_Best_build σ σ3 := Fr.call F1 (fr_Way_add e2) (rfl)
  obtain ⟨σ4, e3, h⟩ := xbR_ex h
  have F3 : Fr s_Best_build σ σ4 := Fr.call F2 (fr_Best_buildSide e3) (rfl)
  obtain ⟨σ5, e4, h⟩ := xbR_ex h
  have F4 : Fr s_Best_build σ σ5 := Fr.call F3 (fr_Best_buildSide e4) (rfl)
  obtain ⟨r6, -, h⟩ := xbR_ex h
  obtain ⟨r7, -, h⟩ := xbR_ex h
  obtain ⟨σ8, e7, h⟩ := xlet_ex h
  have F7 : Fr s_Best_build σ σ8 := Fr.up F4 e7 (rfl)
  cases h
  exact F7
theorem fr_X_take {σ : xSt} {r : (Int × xSt)} (h : f_X_take σ = some r) : Fr s_X_take σ r.2 := by
  unfold f_X_take at h
  rcases ite_ex h with ⟨-, h⟩ | ⟨-, h⟩
  · cases h
    exact Fr.rf
  · rcases ite_ex h with ⟨-, h⟩ | ⟨-, h⟩
    · obtain ⟨σ1, e1, h⟩ := xbR_ex h
      have F1 : Fr s_X_take σ σ1 := Fr.call Fr.rf (fr_Best_build e1) (rfl)
      cases h
      exact F1
    · cases h
      exact Fr.rf
theorem fr_Way_put {p1 : Int} {p2 : Int} {σ : xSt} {r : (Int × xSt)} (h : f_Way_put p1 p2 σ = some r) : Fr s_Way_put σ r.2 := by
  unfold f_Way_put at h
  obtain ⟨r1, -, h⟩ := xbR_ex h
  rcases ite_ex h with ⟨-, h⟩ | ⟨-, h⟩
  · cases h
    exact Fr.rf
  · obtain ⟨-, h⟩ := gu_ex h
    obtain ⟨σ2, e2, h⟩ := xlet_ex h
    have F2 : Fr s_Way_put σ σ2 := Fr.up Fr.rf e2 (rfl)
    cases h
    exact F2
theorem fr_Way_putName_6 : ∀ (n : Nat) {l2 : Int} {l3 : Int} {l4 : Int} {σ : xSt} {r : (Int × xSt)}, f_Way_putName_6  n l2 l3 l4 σ = some r → Fr s_Way_putName σ r.2 := by
  intro n
  induction n with
  | zero => exact fun h => nomatch h
  | succ n ih =>
    intro l2 l3 l4 σ r h
    unfold f_Way_putName_6 at h
    rcases ite_ex h with ⟨-, h⟩ | ⟨-, h⟩
    · cases h
      exact Fr.rf
    · obtain ⟨x1, -, h⟩ := xlet_ex h
      rcases ite_ex h with ⟨-, h⟩ | ⟨-, h⟩
      · obtain ⟨x2, -, h⟩ := xlet_ex h
        exact Fr.call Fr.rf (ih h) (subL_rf _)
      · obtain ⟨r3, σ4, e1, h⟩ := xbW_ex h
        have F1 : Fr s_Way_putName σ σ4 := Fr.call Fr.rf (fr_Way_put e1) (rfl)
        obtain ⟨x5, -, h⟩ := xlet_ex h
        exact Fr.call F1 (ih h) (subL_rf _)
theorem fr_Way_putName {p1 : Int} {p2 : Int} {σ : xSt} {r : (Int × xSt)} (h : f_Way_putName p1 p2 σ = some r) : Fr s_Way_putName σ r.2 := by
  unfold f_Way_putName at h
  exact Fr.call Fr.rf (fr_Way_putName_6 _ h) (subL_rf _)
theorem fr_Way_putClosings_10 : ∀ (n : Nat) {l5 : Int} {l6 : Int} {l7 : Int} {σ : xSt} {r : (Int × xSt)}, f_Way_putClosings_10  n l5 l6 l7 σ = some r → Fr s_Way_putClosings σ r.2 := by
  intro n
  induction n with
  | zero => exact fun h => nomatch h
  | succ n ih =>
    intro l5 l6 l7 σ r h
    unfold f_Way_putClosings_10 at h
    rcases ite_ex h with ⟨-, h⟩ | ⟨-, h⟩
    · obtain ⟨r1, -, h⟩ := xbR_ex h
      rcases ite_ex h with ⟨-, h⟩ | ⟨-, h⟩
      · cases h
        exact Fr.rf
      · obtain ⟨r2, -, h⟩ := xbR_ex h
        obtain ⟨r3, -, h⟩ := xbR_ex h
        obtain ⟨r4, -, h⟩ := xbR_ex h
        rcases ite_ex h with ⟨-, h⟩ | ⟨-, h⟩
        · obtain ⟨r5, σ6, e5, h⟩ := xbW_ex h
          have F5 : Fr s_Way_putClosings σ σ6 := Fr.call Fr.rf (fr_Way_put e5) (rfl)
          obtain ⟨x7, -, h⟩ := xlet_ex h
          exact Fr.call F5 (ih h) (subL_rf _)
        · cases h
          exact Fr.rf
    · cases h
      exact Fr.rf
theorem fr_Way_putClosings {p2 : Int} {p4 : Int} {σ : xSt} {r : (Int × xSt)} (h : f_Way_putClosings p2 p4 σ = some r) : Fr s_Way_putClosings σ r.2 := by
  unfold f_Way_putClosings at h
  exact Fr.call Fr.rf (fr_Way_putClosings_10 _ h) (subL_rf _)
theorem fr_Way_tellInto_118 {k5 : (Int → Int → xSt → Option (Int × xSt))} {l3 : Int} {l4 : Int} (hk5 : ∀ {z0 : Int} {z1 : Int} {σ : xSt} {r : (Int × xSt)}, k5 z0 z1 σ = some r → Fr s_Way_tellInto σ r.2) {σ : xSt} {r : (Int × xSt)} (h : f_Way_tellInto_118 k5 l3 l4 σ = some r) : Fr s_Way_tellInto σ r.2 := by
  unfold f_Way_tellInto_118 at h
  obtain ⟨-, h⟩ := gu_ex h
  rcases ite_ex h with ⟨-, h⟩ | ⟨-, h⟩
  · obtain ⟨x11, -, h⟩ := xlet_ex h
    exact Fr.call Fr.rf (hk5 h) (rfl)
  · obtain ⟨r12, σ13, e1, h⟩ := xbW_ex h
    have F1 : Fr s_Way_tellInto σ σ13 := Fr.call Fr.rf (fr_Way_putClosings e1) (rfl)
    obtain ⟨x14, -, h⟩ := xlet_ex h
    exact Fr.call F1 (hk5 h) (rfl)
theorem fr_Way_tellInto_49 {k5 : (Int → Int → xSt → Option (Int × xSt))} {l3 : Int} {l4 : Int} (hk5 : ∀ {z0 : Int} {z1 : Int} {σ : xSt} {r : (Int × xSt)}, k5 z0 z1 σ = some r → Fr s_Way_tellInto σ r.2) {σ : xSt} {r : (Int × xSt)} (h : f_Way_tellInto_49 k5 l3 l4 σ = some r) : Fr s_Way_tellInto σ r.2 := by
  unfold f_Way_tellInto_49 at h
  obtain ⟨-, h⟩ := gu_ex h
  rcases ite_ex h with ⟨-, h⟩ | ⟨-, h⟩
  · obtain ⟨r3, σ4, e1, h⟩ := xbW_ex h
    have F1 : Fr s_Way_tellInto σ σ4 := Fr.call Fr.rf (fr_Way_putName e1) (rfl)
    exact Fr.call F1 (fr_Way_tellInto_118 hk5 h) (subL_rf _)
  · obtain ⟨-, h⟩ := gu_ex h
    rcases ite_ex h with ⟨-, h⟩ | ⟨-, h⟩
    · obtain ⟨-, h⟩ := gu_ex h
      obtain ⟨r5, -, h⟩ := xbR_ex h
      obtain ⟨r6, σ7, e3, h⟩ := xbW_ex h
      have F3 : Fr s_Way_tellInto σ σ7 := Fr.call Fr.rf (fr_Way_putName e3) (rfl)
      exact Fr.call F3 (fr_Way_tellInto_118 hk5 h) (subL_rf _)
    · obtain ⟨-, h⟩ := gu_ex h
      obtain ⟨r8, -, h⟩ := xbR_ex h
      obtain ⟨r9, σ10, e5, h⟩ := xbW_ex h
      have F5 : Fr s_Way_tellInto σ σ10 := Fr.call Fr.rf (fr_Way_putName e5) (rfl)
      exact Fr.call F5 (fr_Way_tellInto_118 hk5 h) (subL_rf _)
theorem fr_Way_tellInto_45 {k5 : (Int → Int → xSt → Option (Int × xSt))} {l4 : Int} {s0 : Int} {s1 : Int} (hk5 : ∀ {z0 : Int} {z1 : Int} {σ : xSt} {r : (Int × xSt)}, k5 z0 z1 σ = some r → Fr s_Way_tellInto σ r.2) {σ : xSt} {r : (Int × xSt)} (h : f_Way_tellInto_45 k5 l4 s0 s1 σ = some r) : Fr s_Way_tellInto σ r.2 := by
  unfold f_Way_tellInto_45 at h
  obtain ⟨r1, σ2, e1, h⟩ := xbW_ex h
  have F1 : Fr s_Way_tellInto σ σ2 := Fr.call Fr.rf (fr_Way_put e1) (rfl)
  exact Fr.call F1 (fr_Way_tellInto_49 hk5 h) (subL_rf _)
theorem fr_Way_tellInto_5 : ∀ (n : Nat) {l3 : Int} {l4 : Int} {σ : xSt} {r : (Int × xSt)}, f_Way_tellInto_5  n l3 l4 σ = some r → Fr s_Way_tellInto σ r.2 := by
  intro n
  induction n with
  | zero => exact fun h => nomatch h
  | succ n ih =>
    intro l3 l4 σ r h
    unfold f_Way_tellInto_5 at h
    rcases ite_ex h with ⟨-, h⟩ | ⟨-, h⟩
    · rcases ite_ex h with ⟨-, h⟩ | ⟨-, h⟩
      · rcases ite_ex h with ⟨-, h⟩ | ⟨-, h⟩
        · obtain ⟨-, h⟩ := gu_ex h
          rcases ite_ex h with ⟨-, h⟩ | ⟨-, h⟩
          · exact Fr.call Fr.rf (fr_Way_tellInto_45 (fun h => ih h) h) (subL_rf _)
          · exact Fr.call Fr.rf (fr_Way_tellInto_45 (fun h => ih h) h) (subL_rf _)
        · exact Fr.call Fr.rf (fr_Way_tellInto_49 (fun h => ih h) h) (subL_rf _)
      · cases h
        exact Fr.rf
    · cases h
      exact Fr.rf
theorem fr_Way_tellInto {σ : xSt} {r : (Int × xSt)} (h : f_Way_tellInto σ = some r) : Fr s_Way_tellInto σ r.2 := by
  unfold f_Way_tellInto at h
  exact Fr.call Fr.rf (fr_Way_tellInto_5 _ h) (subL_rf _)
theorem fr_X_write {σ : xSt} {r : (Int × xSt)} (h : f_X_write σ = some r) : Fr s_X_write σ r.2 := by
  unfold f_X_write at h
  obtain ⟨r1, -, h⟩ := xbR_ex h
  rcases ite_ex h with ⟨-, h⟩ | ⟨-, h⟩
  · cases h
    exact Fr.rf
  · obtain ⟨r2, σ3, e2, h⟩ := xbW_ex h
    have F2 : Fr s_X_write σ σ3 := Fr.call Fr.rf (fr_Way_tellInto e2) (rfl)
    obtain ⟨σ4, e3, h⟩ := xlet_ex h
    have F3 : Fr s_X_write σ σ4 := Fr.up F2 e3 (rfl)
    cases h
    exact F3
theorem fr_X_castOnce_101 {l4 : Int} {σ : xSt} {r : (Int × xSt)} (h : f_X_castOnce_101 l4 σ = some r) : Fr s_X_castOnce σ r.2 := by
  unfold f_X_castOnce_101 at h
  obtain ⟨r8, -, h⟩ := xbR_ex h
  cases h
  exact Fr.rf
theorem fr_X_castOnce_10 : ∀ (n : Nat) {l1 : Int} {l3 : Int} {l4 : Int} {σ : xSt} {r : (Int × xSt)}, f_X_castOnce_10  n l1 l3 l4 σ = some r → Fr s_X_castOnce σ r.2 := by
  intro n
  induction n with
  | zero => exact fun h => nomatch h
  | succ n ih =>
    intro l1 l3 l4 σ r h
    unfold f_X_castOnce_10 at h
    rcases ite_ex h with ⟨-, h⟩ | ⟨-, h⟩
    · obtain ⟨r2, -, h⟩ := xbR_ex h
      rcases ite_ex h with ⟨-, h⟩ | ⟨-, h⟩
      · obtain ⟨r3, -, h⟩ := xbR_ex h
        obtain ⟨x4, -, h⟩ := xlet_ex h
        obtain ⟨r5, -, h⟩ := xbR_ex h
        obtain ⟨r6, -, h⟩ := xbR_ex h
        obtain ⟨σ7, e5, h⟩ := xlet_ex h
        have F5 : Fr s_X_castOnce σ σ7 := Fr.up Fr.rf e5 (rfl)
        exact Fr.call F5 (ih h) (subL_rf _)
      · exact Fr.call Fr.rf (fr_X_castOnce_101 h) (subL_rf _)
    · exact Fr.call Fr.rf (fr_X_castOnce_101 h) (subL_rf _)
theorem fr_X_castOnce {p1 : Int} {p2 : Int} {σ : xSt} {r : (Int × xSt)} (h : f_X_castOnce p1 p2 σ = some r) : Fr s_X_castOnce σ r.2 := by
  unfold f_X_castOnce at h
  obtain ⟨σ1, e1, h⟩ := xlet_ex h
  have F1 : Fr s_X_castOnce σ σ1 := Fr.up Fr.rf e1 (rfl)
  exact Fr.call F1 (fr_X_castOnce_10 _ h) (subL_rf _)
theorem fr_X_cast {p1 : Int} {p2 : Int} {σ : xSt} {r : (Int × xSt)} (h : f_X_cast p1 p2 σ = some r) : Fr s_X_cast σ r.2 := by
  unfold f_X_cast at h
  rcases ite_ex h with ⟨-, h⟩ | ⟨-, h⟩
  · cases h
    exact Fr.rf
  · rcases ite_ex h with ⟨-, h⟩ | ⟨-, h⟩
    · cases h
      exact Fr.rf
    · obtain ⟨r1, -, h⟩ := xbR_ex h
      rcases ite_ex h with ⟨-, h⟩ | ⟨-, h⟩
      · cases h
        exact Fr.rf
      · obtain ⟨r2, σ3, e2, h⟩ := xbW_ex h
        have F2 : Fr s_X_cast σ σ3 := Fr.call Fr.rf (fr_X_castOnce e2) (rfl)
        cases h
        exact F2
theorem fr_X_casts_47 : ∀ (n : Nat) {l1 : Int} {l2 : Int} {l3 : Int} {l4 : Int} {l5 : Int} {l6 : Int} {σ : xSt} {r : (Int × xSt)}, f_X_casts_47  n l1 l2 l3 l4 l5 l6 σ = some r → Fr s_X_casts σ r.2 := by
  intro n
  induction n with
  | zero => exact fun h => nomatch h
  | succ n ih =>
    intro l1 l2 l3 l4 l5 l6 σ r h
    unfold f_X_casts_47 at h
    rcases ite_ex h with ⟨-, h⟩ | ⟨-, h⟩
    · obtain ⟨r4, σ5, e1, h⟩ := xbW_ex h
      have F1 : Fr s_X_casts σ σ5 := Fr.call Fr.rf (fr_X_castOnce e1) (rfl)
      rcases ite_ex h with ⟨-, h⟩ | ⟨-, h⟩
      · obtain ⟨x6, -, h⟩ := xlet_ex h
        obtain ⟨x7, -, h⟩ := xlet_ex h
        exact Fr.call F1 (ih h) (subL_rf _)
      · obtain ⟨x8, -, h⟩ := xlet_ex h
        exact Fr.call F1 (ih h) (subL_rf _)
    · obtain ⟨σ9, e2, h⟩ := xlet_ex h
      have F2 : Fr s_X_casts σ σ9 := Fr.up Fr.rf e2 (rfl)
      cases h
      exact F2
theorem fr_X_casts {p1 : Int} {p2 : Int} {p3 : Int} {σ : xSt} {r : (Int × xSt)} (h : f_X_casts p1 p2 p3 σ = some r) : Fr s_X_casts σ r.2 := by
  unfold f_X_casts at h
  rcases ite_ex h with ⟨-, h⟩ | ⟨-, h⟩
  · cases h
    exact Fr.rf
  · rcases ite_ex h with ⟨-, h⟩ | ⟨-, h⟩
    · cases h
      exact Fr.rf
    · obtain ⟨r1, -, h⟩ := xbR_ex h
      rcases ite_ex h with ⟨-, h⟩ | ⟨-, h⟩
      · cases h
        exact Fr.rf
      · obtain ⟨r2, -, h⟩ := xbR_ex h
        rcases ite_ex h with ⟨-, h⟩ | ⟨-, h⟩
        · cases h
          exact Fr.rf
        · obtain ⟨x3, -, h⟩ := xlet_ex h
          exact Fr.call Fr.rf (fr_X_casts_47 _ h) (subL_rf _)
theorem fr_Sentence_add {p1 : Int} {p2 : Int} {p3 : Int} {σ : xSt} {r : (Int × xSt)} (h : f_Sentence_add p1 p2 p3 σ = some r) : Fr s_Sentence_add σ r.2 := by
  unfold f_Sentence_add at h
  obtain ⟨r1, -, h⟩ := xbR_ex h
  rcases ite_ex h with ⟨-, h⟩ | ⟨-, h⟩
  · cases h
    exact Fr.rf
  · obtain ⟨-, h⟩ := gu_ex h
    obtain ⟨σ2, e2, h⟩ := xlet_ex h
    have F2 : Fr s_Sentence_add σ σ2 := Fr.up Fr.rf e2 (rfl)
    obtain ⟨-, h⟩ := gu_ex h
    obtain ⟨σ3, e3, h⟩ := xlet_ex h
    have F3 : Fr s_Sentence_add σ σ3 := Fr.up F2 e3 (rfl)
    obtain ⟨-, h⟩ := gu_ex h
    obtain ⟨σ4, e4, h⟩ := xlet_ex h
    have F4 : Fr s_Sentence_add σ σ4 := Fr.up F3 e4 (rfl)
    obtain ⟨σ5, e5, h⟩ := xlet_ex h
    have F5 : Fr s_Sentence_add σ σ5 := Fr.up F4 e5 (rfl)
    cases h
    exact F5
theorem fr_Sentence_readSized_54 {l2 : Int} {σ : xSt} {r : (Int × xSt)} (h : f_Sentence_readSized_54 l2 σ = some r) : Fr s_Sentence_readSized σ r.2 := by
  unfold f_Sentence_readSized_54 at h
  obtain ⟨x8, -, h⟩ := xlet_ex h
  obtain ⟨σ9, e1, h⟩ := xbR_ex h
  have F1 : Fr s_Sentence_readSized σ σ9 := Fr.call Fr.rf (fr_Tokens_step e1) (rfl)
  obtain ⟨r10, -, h⟩ := xbR_ex h
  rcases ite_ex h with ⟨-, h⟩ | ⟨-, h⟩
  · obtain ⟨r11, σ12, e3, h⟩ := xbW_ex h
    have F3 : Fr s_Sentence_readSized σ σ12 := Fr.call F1 (fr_Tokens_fail e3) (rfl)
    cases h
    exact F3
  · obtain ⟨x13, -, h⟩ := xlet_ex h
    obtain ⟨σ14, e4, h⟩ := xbR_ex h
    have F4 : Fr s_Sentence_readSized σ σ14 := Fr.call F1 (fr_Tokens_step e4) (rfl)
    obtain ⟨r15, σ16, e5, h⟩ := xbW_ex h
    have F5 : Fr s_Sentence_readSized σ σ16 := Fr.call F4 (fr_Sentence_add e5) (rfl)
    cases h
    exact F5
theorem fr_Sentence_readSized_16 {s0 : Int} {σ : xSt} {r : (Int × xSt)} (h : f_Sentence_readSized_16 s0 σ = some r) : Fr s_Sentence_readSized σ r.2 := by
  unfold f_Sentence_readSized_16 at h
  obtain ⟨σ2, e1, h⟩ := xbR_ex h
  have F1 : Fr s_Sentence_readSized σ σ2 := Fr.call Fr.rf (fr_Tokens_step e1) (rfl)
  obtain ⟨r3, -, h⟩ := xbR_ex h
  rcases ite_ex h with ⟨-, h⟩ | ⟨-, h⟩
  · obtain ⟨r4, -, h⟩ := xbR_ex h
    rcases ite_ex h with ⟨-, h⟩ | ⟨-, h⟩
    · obtain ⟨r5, -, h⟩ := xbR_ex h
      rcases ite_ex h with ⟨-, h⟩ | ⟨-, h⟩
      · obtain ⟨r6, σ7, e5, h⟩ := xbW_ex h
        have F5 : Fr s_Sentence_readSized σ σ7 := Fr.call F1 (fr_Tokens_fail e5) (rfl)
        cases h
        exact F5
      · exact Fr.call F1 (fr_Sentence_readSized_54 h) (subL_rf _)
    · exact Fr.call F1 (fr_Sentence_readSized_54 h) (subL_rf _)
  · exact Fr.call F1 (fr_Sentence_readSized_54 h) (subL_rf _)
theorem fr_Sentence_readSized {σ : xSt} {r : (Int × xSt)} (h : f_Sentence_readSized σ = some r) : Fr s_Sentence_readSized σ r.2 := by
  unfold f_Sentence_readSized at h
  obtain ⟨r1, -, h⟩ := xbR_ex h
  rcases ite_ex h with ⟨-, h⟩ | ⟨-, h⟩
  · exact Fr.call Fr.rf (fr_Sentence_readSized_16 h) (subL_rf _)
  · exact Fr.call Fr.rf (fr_Sentence_readSized_16 h) (subL_rf _)
theorem fr_Sentence_readLike {σ : xSt} {r : (Int × xSt)} (h : f_Sentence_readLike σ = some r) : Fr s_Sentence_readLike σ r.2 := by
  unfold f_Sentence_readLike at h
  obtain ⟨r1, -, h⟩ := xbR_ex h
  rcases ite_ex h with ⟨-, h⟩ | ⟨-, h⟩
  · obtain ⟨r2, σ3, e2, h⟩ := xbW_ex h
    have F2 : Fr s_Sentence_readLike σ σ3 := Fr.call Fr.rf (fr_Tokens_fail e2) (rfl)
    cases h
    exact F2
  · obtain ⟨r4, -, h⟩ := xbR_ex h
    rcases ite_ex h with ⟨-, h⟩ | ⟨-, h⟩
    · obtain ⟨r5, σ6, e4, h⟩ := xbW_ex h
      have F4 : Fr s_Sentence_readLike σ σ6 := Fr.call Fr.rf (fr_Tokens_fail e4) (rfl)
      cases h
      exact F4
    · obtain ⟨σ7, e5, h⟩ := xbR_ex h
      have F5 : Fr s_Sentence_readLike σ σ7 := Fr.call Fr.rf (fr_Tokens_step e5) (rfl)
      obtain ⟨r8, σ9, e6, h⟩ := xbW_ex h
      have F6 : Fr s_Sentence_readLike σ σ9 := Fr.call F5 (fr_Sentence_add e6) (rfl)
      cases h
      exact F6
theorem fr_Sentence_readAll_15 {q_Sentence_readAll : (Int → xSt → Option (Int × xSt))} {q_Sentence_readCondition : (Int → xSt → Option (Int × xSt))} {q_Sentence_readOne : (Int → xSt → Option (Int × xSt))} (hq_Sentence_readAll : ∀ {z0 : Int} {σ : xSt} {r : (Int × xSt)}, q_Sentence_readAll z0 σ = some r → Fr s_Sentence_readAll σ r.2) (hq_Sentence_readCondition : ∀ {z0 : Int} {σ : xSt} {r : (Int × xSt)}, q_Sentence_readCondition z0 σ = some r → Fr s_Sentence_readAll σ r.2) (hq_Sentence_readOne : ∀ {z0 : Int} {σ : xSt} {r : (Int × xSt)}, q_Sentence_readOne z0 σ = some r → Fr s_Sentence_readAll σ r.2) : ∀ (n : Nat) {l3 : Int} {l4 : Int} {σ : xSt} {r : (Int × xSt)}, f_Sentence_readAll_15 q_Sentence_readAll q_Sentence_readCondition q_Sentence_readOne n l3 l4 σ = some r → Fr s_Sentence_readAll σ r.2 := by
  intro n
  induction n with
  | zero => exact fun h => nomatch h
  | succ n ih =>
    intro l3 l4 σ r h
    unfold f_Sentence_readAll_15 at h
    rcases ite_ex h with ⟨-, h⟩ | ⟨-, h⟩
    · obtain ⟨r3, -, h⟩ := xbR_ex h
      rcases ite_ex h with ⟨-, h⟩ | ⟨-, h⟩
      · cases h
        exact Fr.rf
      · obtain ⟨σ4, e2, h⟩ := xbR_ex h
        have F2 : Fr s_Sentence_readAll σ σ4 := Fr.call Fr.rf (fr_Tokens_step e2) (rfl)
        obtain ⟨r5, σ6, e3, h⟩ := xbW_ex h
        have F3 : Fr s_Sentence_readAll σ σ6 := Fr.call F2 (hq_Sentence_readOne e3) (rfl)
        rcases ite_ex h with ⟨-, h⟩ | ⟨-, h⟩
        · cases h
          exact F3
        · obtain ⟨r7, σ8, e4, h⟩ := xbW_ex h
          have F4 : Fr s_Sentence_readAll σ σ8 := Fr.call F3 (fr_Sentence_add e4) (rfl)
          rcases ite_ex h with ⟨-, h⟩ | ⟨-, h⟩
          · cases h
            exact F4
          · obtain ⟨x9, -, h⟩ := xlet_ex h
            exact Fr.call F4 (ih h) (subL_rf _)
    · cases h
      exact Fr.rf
theorem fr0_Sentence_readAll {q_Sentence_readAll : (Int → xSt → Option (Int × xSt))} {q_Sentence_readCondition : (Int → xSt → Option (Int × xSt))} {q_Sentence_readOne : (Int → xSt → Option (Int × xSt))} {p3 : Int} (hq_Sentence_readAll : ∀ {z0 : Int} {σ : xSt} {r : (Int × xSt)}, q_Sentence_readAll z0 σ = some r → Fr s_Sentence_readAll σ r.2) (hq_Sentence_readCondition : ∀ {z0 : Int} {σ : xSt} {r : (Int × xSt)}, q_Sentence_readCondition z0 σ = some r → Fr s_Sentence_readAll σ r.2) (hq_Sentence_readOne : ∀ {z0 : Int} {σ : xSt} {r : (Int × xSt)}, q_Sentence_readOne z0 σ = some r → Fr s_Sentence_readAll σ r.2) {σ : xSt} {r : (Int × xSt)} (h : f0_Sentence_readAll q_Sentence_readAll q_Sentence_readCondition q_Sentence_readOne p3 σ = some r) : Fr s_Sentence_readAll σ r.2 := by
  unfold f0_Sentence_readAll at h
  obtain ⟨r1, σ2, e1, h⟩ := xbW_ex h
  have F1 : Fr s_Sentence_readAll σ σ2 := Fr.call Fr.rf (hq_Sentence_readOne e1) (rfl)
  rcases ite_ex h with ⟨-, h⟩ | ⟨-, h⟩
  · cases h
    exact F1
  · exact Fr.call F1 (fr_Sentence_readAll_15 hq_Sentence_readAll hq_Sentence_readCondition hq_Sentence_readOne _ h) (subL_rf _)
theorem fr_Sentence_readCondition_15 {q_Sentence_readAll : (Int → xSt → Option (Int × xSt))} {q_Sentence_readCondition : (Int → xSt → Option (Int × xSt))} {q_Sentence_readOne : (Int → xSt → Option (Int × xSt))} (hq_Sentence_readAll : ∀ {z0 : Int} {σ : xSt} {r : (Int × xSt)}, q_Sentence_readAll z0 σ = some r → Fr s_Sentence_readAll σ r.2) (hq_Sentence_readCondition : ∀ {z0 : Int} {σ : xSt} {r : (Int × xSt)}, q_Sentence_readCondition z0 σ = some r → Fr s_Sentence_readAll σ r.2) (hq_Sentence_readOne : ∀ {z0 : Int} {σ : xSt} {r : (Int × xSt)}, q_Sentence_readOne z0 σ = some r → Fr s_Sentence_readAll σ r.2) : ∀ (n : Nat) {l3 : Int} {l4 : Int} {σ : xSt} {r : (Int × xSt)}, f_Sentence_readCondition_15 q_Sentence_readAll q_Sentence_readCondition q_Sentence_readOne n l3 l4 σ = some r → Fr s_Sentence_readAll σ r.2 := by
  intro n
  induction n with
  | zero => exact fun h => nomatch h
  | succ n ih =>
    intro l3 l4 σ r h
    unfold f_Sentence_readCondition_15 at h
    rcases ite_ex h with ⟨-, h⟩ | ⟨-, h⟩
    · obtain ⟨r3, -, h⟩ := xbR_ex h
      rcases ite_ex h with ⟨-, h⟩ | ⟨-, h⟩
      · cases h
        exact Fr.rf
      · obtain ⟨σ4, e2, h⟩ := xbR_ex h
        have F2 : Fr s_Sentence_readAll σ σ4 := Fr.call Fr.rf (fr_Tokens_step e2) (rfl)
        obtain ⟨r5, σ6, e3, h⟩ := xbW_ex h
        have F3 : Fr s_Sentence_readAll σ σ6 := Fr.call F2 (hq_Sentence_readAll e3) (rfl)
        rcases ite_ex h with ⟨-, h⟩ | ⟨-, h⟩
        · cases h
          exact F3
        · obtain ⟨r7, σ8, e4, h⟩ := xbW_ex h
          have F4 : Fr s_Sentence_readAll σ σ8 := Fr.call F3 (fr_Sentence_add e4) (rfl)
          rcases ite_ex h with ⟨-, h⟩ | ⟨-, h⟩
          · cases h
            exact F4
          · obtain ⟨x9, -, h⟩ := xlet_ex h
            exact Fr.call F4 (ih h) (subL_rf _)
    · cases h
      exact Fr.rf
theorem fr0_Sentence_readCondition {q_Sentence_readAll : (Int → xSt → Option (Int × xSt))} {q_Sentence_readCondition : (Int → xSt → Option (Int × xSt))} {q_Sentence_readOne : (Int → xSt → Option (Int × xSt))} {p3 : Int} (hq_Sentence_readAll : ∀ {z0 : Int} {σ : xSt} {r : (Int × xSt)}, q_Sentence_readAll z0 σ = some r → Fr s_Sentence_readAll σ r.2) (hq_Sentence_readCondition : ∀ {z0 : Int} {σ : xSt} {r : (Int × xSt)}, q_Sentence_readCondition z0 σ = some r → Fr s_Sentence_readAll σ r.2) (hq_Sentence_readOne : ∀ {z0 : Int} {σ : xSt} {r : (Int × xSt)}, q_Sentence_readOne z0 σ = some r → Fr s_Sentence_readAll σ r.2) {σ : xSt} {r : (Int × xSt)} (h : f0_Sentence_readCondition q_Sentence_readAll q_Sentence_readCondition q_Sentence_readOne p3 σ = some r) : Fr s_Sentence_readAll σ r.2 := by
  unfold f0_Sentence_readCondition at h
  obtain ⟨r1, σ2, e1, h⟩ := xbW_ex h
  have F1 : Fr s_Sentence_readAll σ σ2 := Fr.call Fr.rf (hq_Sentence_readAll e1) (rfl)
  rcases ite_ex h with ⟨-, h⟩ | ⟨-, h⟩
  · cases h
    exact F1
  · exact Fr.call F1 (fr_Sentence_readCondition_15 hq_Sentence_readAll hq_Sentence_readCondition hq_Sentence_readOne _ h) (subL_rf _)
theorem fr_Sentence_readOne_116 {q_Sentence_readAll : (Int → xSt → Option (Int × xSt))} {q_Sentence_readCondition : (Int → xSt → Option (Int × xSt))} {q_Sentence_readOne : (Int → xSt → Option (Int × xSt))} (hq_Sentence_readAll : ∀ {z0 : Int} {σ : xSt} {r : (Int × xSt)}, q_Sentence_readAll z0 σ = some r → Fr s_Sentence_readAll σ r.2) (hq_Sentence_readCondition : ∀ {z0 : Int} {σ : xSt} {r : (Int × xSt)}, q_Sentence_readCondition z0 σ = some r → Fr s_Sentence_readAll σ r.2) (hq_Sentence_readOne : ∀ {z0 : Int} {σ : xSt} {r : (Int × xSt)}, q_Sentence_readOne z0 σ = some r → Fr s_Sentence_readAll σ r.2) {σ : xSt} {r : (Int × xSt)} (h : f_Sentence_readOne_116 q_Sentence_readAll q_Sentence_readCondition q_Sentence_readOne σ = some r) : Fr s_Sentence_readAll σ r.2 := by
  unfold f_Sentence_readOne_116 at h
  obtain ⟨r25, σ26, e1, h⟩ := xbW_ex h
  have F1 : Fr s_Sentence_readAll σ σ26 := Fr.call Fr.rf (fr_Tokens_fail e1) (rfl)
  cases h
  exact F1
theorem fr_Sentence_readOne_162 {q_Sentence_readAll : (Int → xSt → Option (Int × xSt))} {q_Sentence_readCondition : (Int → xSt → Option (Int × xSt))} {q_Sentence_readOne : (Int → xSt → Option (Int × xSt))} {s0 : Int} (hq_Sentence_readAll : ∀ {z0 : Int} {σ : xSt} {r : (Int × xSt)}, q_Sentence_readAll z0 σ = some r → Fr s_Sentence_readAll σ r.2) (hq_Sentence_readCondition : ∀ {z0 : Int} {σ : xSt} {r : (Int × xSt)}, q_Sentence_readCondition z0 σ = some r → Fr s_Sentence_readAll σ r.2) (hq_Sentence_readOne : ∀ {z0 : Int} {σ : xSt} {r : (Int × xSt)}, q_Sentence_readOne z0 σ = some r → Fr s_Sentence_readAll σ r.2) {σ : xSt} {r : (Int × xSt)} (h : f_Sentence_readOne_162 q_Sentence_readAll q_Sentence_readCondition q_Sentence_readOne s0 σ = some r) : Fr s_Sentence_readAll σ r.2 := by
  unfold f_Sentence_readOne_162 at h
  obtain ⟨σ27, e1, h⟩ := xbR_ex h
  have F1 : Fr s_Sentence_readAll σ σ27 := Fr.call Fr.rf (fr_Tokens_step e1) (rfl)
  obtain ⟨r28, σ29, e2, h⟩ := xbW_ex h
  have F2 : Fr s_Sentence_readAll σ σ29 := Fr.call F1 (fr_Sentence_add e2) (rfl)
  cases h
  exact F2
theorem fr_Sentence_readOne_101 {q_Sentence_readAll : (Int → xSt → Option (Int × xSt))} {q_Sentence_readCondition : (Int → xSt → Option (Int × xSt))} {q_Sentence_readOne : (Int → xSt → Option (Int × xSt))} {l3 : Int} {l4 : Int} {l5 : Int} {l6 : Int} {l7 : Int} (hq_Sentence_readAll : ∀ {z0 : Int} {σ : xSt} {r : (Int × xSt)}, q_Sentence_readAll z0 σ = some r → Fr s_Sentence_readAll σ r.2) (hq_Sentence_readCondition : ∀ {z0 : Int} {σ : xSt} {r : (Int × xSt)}, q_Sentence_readCondition z0 σ = some r → Fr s_Sentence_readAll σ r.2) (hq_Sentence_readOne : ∀ {z0 : Int} {σ : xSt} {r : (Int × xSt)}, q_Sentence_readOne z0 σ = some r → Fr s_Sentence_readAll σ r.2) {σ : xSt} {r : (Int × xSt)} (h : f_Sentence_readOne_101 q_Sentence_readAll q_Sentence_readCondition q_Sentence_readOne l3 l4 l5 l6 l7 σ = some r) : Fr s_Sentence_readAll σ r.2 := by
  unfold f_Sentence_readOne_101 at h
  rcases ite_ex h with ⟨-, h⟩ | ⟨-, h⟩
  · rcases ite_ex h with ⟨-, h⟩ | ⟨-, h⟩
    · exact Fr.call Fr.rf (fr_Sentence_readOne_116 hq_Sentence_readAll hq_Sentence_readCondition hq_Sentence_readOne h) (subL_rf _)
    · obtain ⟨σ10, e1, h⟩ := xlet_ex h
      have F1 : Fr s_Sentence_readAll σ σ10 := Fr.up Fr.rf e1 (rfl)
      rcases ite_ex h with ⟨-, h⟩ | ⟨-, h⟩
      · rcases ite_ex h with ⟨-, h⟩ | ⟨-, h⟩
        · obtain ⟨σ11, e2, h⟩ := xbR_ex h
          have F2 : Fr s_Sentence_readAll σ σ11 := Fr.call F1 (fr_Tokens_step e2) (rfl)
          rcases ite_ex h with ⟨-, h⟩ | ⟨-, h⟩
          · rcases ite_ex h with ⟨-, h⟩ | ⟨-, h⟩
            · obtain ⟨r12, σ13, e3, h⟩ := xbW_ex h
              have F3 : Fr s_Sentence_readAll σ σ13 := Fr.call F2 (fr_Sentence_readLike e3) (rfl)
              cases h
              exact F3
            · obtain ⟨r14, σ15, e4, h⟩ := xbW_ex h
              have F4 : Fr s_Sentence_readAll σ σ15 := Fr.call F2 (hq_Sentence_readCondition e4) (rfl)
              rcases ite_ex h with ⟨-, h⟩ | ⟨-, h⟩
              · cases h
                exact F4
              · obtain ⟨r16, σ17, e5, h⟩ := xbW_ex h
                have F5 : Fr s_Sentence_readAll σ σ17 := Fr.call F4 (fr_Tokens_pass e5) (rfl)
                rcases ite_ex h with ⟨-, h⟩ | ⟨-, h⟩
                · cases h
                  exact F5
                · cases h
                  exact F5
          · obtain ⟨r18, σ19, e6, h⟩ := xbW_ex h
            have F6 : Fr s_Sentence_readAll σ σ19 := Fr.call F2 (hq_Sentence_readOne e6) (rfl)
            rcases ite_ex h with ⟨-, h⟩ | ⟨-, h⟩
            · cases h
              exact F6
            · obtain ⟨r20, σ21, e7, h⟩ := xbW_ex h
              have F7 : Fr s_Sentence_readAll σ σ21 := Fr.call F6 (fr_Sentence_add e7) (rfl)
              rcases ite_ex h with ⟨-, h⟩ | ⟨-, h⟩
              · cases h
                exact F7
              · cases h
                exact F7
        · obtain ⟨r22, -, h⟩ := xbR_ex h
          rcases ite_ex h with ⟨-, h⟩ | ⟨-, h⟩
          · exact Fr.call F1 (fr_Sentence_readOne_162 hq_Sentence_readAll hq_Sentence_readCondition hq_Sentence_readOne h) (subL_rf _)
          · exact Fr.call F1 (fr_Sentence_readOne_162 hq_Sentence_readAll hq_Sentence_readCondition hq_Sentence_readOne h) (subL_rf _)
      · obtain ⟨r23, σ24, e9, h⟩ := xbW_ex h
        have F9 : Fr s_Sentence_readAll σ σ24 := Fr.call F1 (fr_Sentence_readSized e9) (rfl)
        cases h
        exact F9
  · exact Fr.call Fr.rf (fr_Sentence_readOne_116 hq_Sentence_readAll hq_Sentence_readCondition hq_Sentence_readOne h) (subL_rf _)
theorem fr_Sentence_readOne_64 {q_Sentence_readAll : (Int → xSt → Option (Int × xSt))} {q_Sentence_readCondition : (Int → xSt → Option (Int × xSt))} {q_Sentence_readOne : (Int → xSt → Option (Int × xSt))} {l3 : Int} {l4 : Int} {l5 : Int} {l6 : Int} {s0 : Int} (hq_Sentence_readAll : ∀ {z0 : Int} {σ : xSt} {r : (Int × xSt)}, q_Sentence_readAll z0 σ = some r → Fr s_Sentence_readAll σ r.2) (hq_Sentence_readCondition : ∀ {z0 : Int} {σ : xSt} {r : (Int × xSt)}, q_Sentence_readCondition z0 σ = some r → Fr s_Sentence_readAll σ r.2) (hq_Sentence_readOne : ∀ {z0 : Int} {σ : xSt} {r : (Int × xSt)}, q_Sentence_readOne z0 σ = some r → Fr s_Sentence_readAll σ r.2) {σ : xSt} {r : (Int × xSt)} (h : f_Sentence_readOne_64 q_Sentence_readAll q_Sentence_readCondition q_Sentence_readOne l3 l4 l5 l6 s0 σ = some r) : Fr s_Sentence_readAll σ r.2 := by
  unfold f_Sentence_readOne_64 at h
  rcases ite_ex h with ⟨-, h⟩ | ⟨-, h⟩
  · rcases ite_ex h with ⟨-, h⟩ | ⟨-, h⟩
    · rcases ite_ex h with ⟨-, h⟩ | ⟨-, h⟩
      · rcases ite_ex h with ⟨-, h⟩ | ⟨-, h⟩
        · obtain ⟨r7, -, h⟩ := xbR_ex h
          rcases ite_ex h with ⟨-, h⟩ | ⟨-, h⟩
          · obtain ⟨r8, σ9, e2, h⟩ := xbW_ex h
            have F2 : Fr s_Sentence_readAll σ σ9 := Fr.call Fr.rf (fr_Tokens_fail e2) (rfl)
            cases h
            exact F2
          · exact Fr.call Fr.rf (fr_Sentence_readOne_101 hq_Sentence_readAll hq_Sentence_readCondition hq_Sentence_readOne h) (subL_rf _)
        · exact Fr.call Fr.rf (fr_Sentence_readOne_101 hq_Sentence_readAll hq_Sentence_readCondition hq_Sentence_readOne h) (subL_rf _)
      · exact Fr.call Fr.rf (fr_Sentence_readOne_101 hq_Sentence_readAll hq_Sentence_readCondition hq_Sentence_readOne h) (subL_rf _)
    · exact Fr.call Fr.rf (fr_Sentence_readOne_101 hq_Sentence_readAll hq_Sentence_readCondition hq_Sentence_readOne h) (subL_rf _)
  · exact Fr.call Fr.rf (fr_Sentence_readOne_101 hq_Sentence_readAll hq_Sentence_readCondition hq_Sentence_readOne h) (subL_rf _)
theorem fr_Sentence_readOne_59 {q_Sentence_readAll : (Int → xSt → Option (Int × xSt))} {q_Sentence_readCondition : (Int → xSt → Option (Int × xSt))} {q_Sentence_readOne : (Int → xSt → Option (Int × xSt))} {l3 : Int} {l4 : Int} {l5 : Int} {l6 : Int} (hq_Sentence_readAll : ∀ {z0 : Int} {σ : xSt} {r : (Int × xSt)}, q_Sentence_readAll z0 σ = some r → Fr s_Sentence_readAll σ r.2) (hq_Sentence_readCondition : ∀ {z0 : Int} {σ : xSt} {r : (Int × xSt)}, q_Sentence_readCondition z0 σ = some r → Fr s_Sentence_readAll σ r.2) (hq_Sentence_readOne : ∀ {z0 : Int} {σ : xSt} {r : (Int × xSt)}, q_Sentence_readOne z0 σ = some r → Fr s_Sentence_readAll σ r.2) {σ : xSt} {r : (Int × xSt)} (h : f_Sentence_readOne_59 q_Sentence_readAll q_Sentence_readCondition q_Sentence_readOne l3 l4 l5 l6 σ = some r) : Fr s_Sentence_readAll σ r.2 := by
  unfold f_Sentence_readOne_59 at h
  exact Fr.call Fr.rf (fr_Sentence_readOne_64 hq_Sentence_readAll hq_Sentence_readCondition hq_Sentence_readOne h) (subL_rf _)
theorem fr_Sentence_readOne_39 {q_Sentence_readAll : (Int → xSt → Option (Int × xSt))} {q_Sentence_readCondition : (Int → xSt → Option (Int × xSt))} {q_Sentence_readOne : (Int → xSt → Option (Int × xSt))} {l3 : Int} {l4 : Int} {l5 : Int} {s0 : Int} (hq_Sentence_readAll : ∀ {z0 : Int} {σ : xSt} {r : (Int × xSt)}, q_Sentence_readAll z0 σ = some r → Fr s_Sentence_readAll σ r.2) (hq_Sentence_readCondition : ∀ {z0 : Int} {σ : xSt} {r : (Int × xSt)}, q_Sentence_readCondition z0 σ = some r → Fr s_Sentence_readAll σ r.2) (hq_Sentence_readOne : ∀ {z0 : Int} {σ : xSt} {r : (Int × xSt)}, q_Sentence_readOne z0 σ = some r → Fr s_Sentence_readAll σ r.2) {σ : xSt} {r : (Int × xSt)} (h : f_Sentence_readOne_39 q_Sentence_readAll q_Sentence_readCondition q_Sentence_readOne l3 l4 l5 s0 σ = some r) : Fr s_Sentence_readAll σ r.2 := by
  unfold f_Sentence_readOne_39 at h
  obtain ⟨r5, -, h⟩ := xbR_ex h
  rcases ite_ex h with ⟨-, h⟩ | ⟨-, h⟩
  · obtain ⟨r6, -, h⟩ := xbR_ex h
    rcases ite_ex h with ⟨-, h⟩ | ⟨-, h⟩
    · exact Fr.call Fr.rf (fr_Sentence_readOne_64 hq_Sentence_readAll hq_Sentence_readCondition hq_Sentence_readOne h) (subL_rf _)
    · exact Fr.call Fr.rf (fr_Sentence_readOne_59 hq_Sentence_readAll hq_Sentence_readCondition hq_Sentence_readOne h) (subL_rf _)
  · exact Fr.call Fr.rf (fr_Sentence_readOne_59 hq_Sentence_readAll hq_Sentence_readCondition hq_Sentence_readOne h) (subL_rf _)
theorem fr_Sentence_readOne_34 {q_Sentence_readAll : (Int → xSt → Option (Int × xSt))} {q_Sentence_readCondition : (Int → xSt → Option (Int × xSt))} {q_Sentence_readOne : (Int → xSt → Option (Int × xSt))} {l3 : Int} {l4 : Int} {l5 : Int} (hq_Sentence_readAll : ∀ {z0 : Int} {σ : xSt} {r : (Int × xSt)}, q_Sentence_readAll z0 σ = some r → Fr s_Sentence_readAll σ r.2) (hq_Sentence_readCondition : ∀ {z0 : Int} {σ : xSt} {r : (Int × xSt)}, q_Sentence_readCondition z0 σ = some r → Fr s_Sentence_readAll σ r.2) (hq_Sentence_readOne : ∀ {z0 : Int} {σ : xSt} {r : (Int × xSt)}, q_Sentence_readOne z0 σ = some r → Fr s_Sentence_readAll σ r.2) {σ : xSt} {r : (Int × xSt)} (h : f_Sentence_readOne_34 q_Sentence_readAll q_Sentence_readCondition q_Sentence_readOne l3 l4 l5 σ = some r) : Fr s_Sentence_readAll σ r.2 := by
  unfold f_Sentence_readOne_34 at h
  exact Fr.call Fr.rf (fr_Sentence_readOne_39 hq_Sentence_readAll hq_Sentence_readCondition hq_Sentence_readOne h) (subL_rf _)
theorem fr0_Sentence_readOne {q_Sentence_readAll : (Int → xSt → Option (Int × xSt))} {q_Sentence_readCondition : (Int → xSt → Option (Int × xSt))} {q_Sentence_readOne : (Int → xSt → Option (Int × xSt))} {p3 : Int} (hq_Sentence_readAll : ∀ {z0 : Int} {σ : xSt} {r : (Int × xSt)}, q_Sentence_readAll z0 σ = some r → Fr s_Sentence_readAll σ r.2) (hq_Sentence_readCondition : ∀ {z0 : Int} {σ : xSt} {r : (Int × xSt)}, q_Sentence_readCondition z0 σ = some r → Fr s_Sentence_readAll σ r.2) (hq_Sentence_readOne : ∀ {z0 : Int} {σ : xSt} {r : (Int × xSt)}, q_Sentence_readOne z0 σ = some r → Fr s_Sentence_readAll σ r.2) {σ : xSt} {r : (Int × xSt)} (h : f0_Sentence_readOne q_Sentence_readAll q_Sentence_readCondition q_Sentence_readOne p3 σ = some r) : Fr s_Sentence_readAll σ r.2 := by
  unfold f0_Sentence_readOne at h
  obtain ⟨r1, -, h⟩ := xbR_ex h
  obtain ⟨r2, -, h⟩ := xbR_ex h
  obtain ⟨r3, -, h⟩ := xbR_ex h
  rcases ite_ex h with ⟨-, h⟩ | ⟨-, h⟩
  · obtain ⟨r4, -, h⟩ := xbR_ex h
    rcases ite_ex h with ⟨-, h⟩ | ⟨-, h⟩
    · exact Fr.call Fr.rf (fr_Sentence_readOne_39 hq_Sentence_readAll hq_Sentence_readCondition hq_Sentence_readOne h) (subL_rf _)
    · exact Fr.call Fr.rf (fr_Sentence_readOne_34 hq_Sentence_readAll hq_Sentence_readCondition hq_Sentence_readOne h) (subL_rf _)
  · exact Fr.call Fr.rf (fr_Sentence_readOne_34 hq_Sentence_readAll hq_Sentence_readCondition hq_Sentence_readOne h) (subL_rf _)
theorem frg_Sentence_readAll : ∀ n, (∀ {p3 : Int} {σ : xSt} {r : (Int × xSt)}, f_Sentence_readAll n p3 σ = some r → Fr s_Sentence_readAll σ r.2) ∧ (∀ {p3 : Int} {σ : xSt} {r : (Int × xSt)}, f_Sentence_readCondition n p3 σ = some r → Fr s_Sentence_readAll σ r.2) ∧ (∀ {p3 : Int} {σ : xSt} {r : (Int × xSt)}, f_Sentence_readOne n p3 σ = some r → Fr s_Sentence_readAll σ r.2) := by
  intro n
  induction n with
  | zero => exact ⟨(fun h => nomatch h), (fun h => nomatch h), (fun h => nomatch h)⟩
  | succ n ih =>
    obtain ⟨i0, i1, i2⟩ := ih
    exact ⟨(fun h => fr0_Sentence_readAll (q_Sentence_readAll := ((g_Sentence_readAll n).1)) (q_Sentence_readCondition := ((g_Sentence_readAll n).2.1)) (q_Sentence_readOne := ((g_Sentence_readAll n).2.2)) (fun h => i0 h) (fun h => i1 h) (fun h => i2 h) h), (fun h => fr0_Sentence_readCondition (q_Sentence_readAll := ((g_Sentence_readAll n).1)) (q_Sentence_readCondition := ((g_Sentence_readAll n).2.1)) (q_Sentence_readOne := ((g_Sentence_readAll n).2.2)) (fun h => i0 h) (fun h => i1 h) (fun h => i2 h) h), (fun h => fr0_Sentence_readOne (q_Sentence_readAll := ((g_Sentence_readAll n).1)) (q_Sentence_readCondition := ((g_Sentence_readAll n).2.1)) (q_Sentence_readOne := ((g_Sentence_readAll n).2.2)) (fun h => i0 h) (fun h => i1 h) (fun h => i2 h) h)⟩
theorem fr_Sentence_readAll {n : Nat} {p3 : Int} {σ : xSt} {r : (Int × xSt)} (h : f_Sentence_readAll n p3 σ = some r) : Fr s_Sentence_readAll σ r.2 := (frg_Sentence_readAll _).1 h
theorem fr_Sentence_readCondition {n : Nat} {p3 : Int} {σ : xSt} {r : (Int × xSt)} (h : f_Sentence_readCondition n p3 σ = some r) : Fr s_Sentence_readAll σ r.2 := (frg_Sentence_readAll _).2.1 h
theorem fr_Sentence_readOne {n : Nat} {p3 : Int} {σ : xSt} {r : (Int × xSt)} (h : f_Sentence_readOne n p3 σ = some r) : Fr s_Sentence_readAll σ r.2 := (frg_Sentence_readAll _).2.2 h
theorem fr_Sentence_read {σ : xSt} {r : (Int × xSt)} (h : f_Sentence_read σ = some r) : Fr s_Sentence_read σ r.2 := by
  unfold f_Sentence_read at h
  obtain ⟨σ1, e1, h⟩ := xbR_ex h
  have F1 : Fr s_Sentence_read σ σ1 := Fr.call Fr.rf (fr_Sentence_clear e1) (rfl)
  obtain ⟨r2, σ3, e2, h⟩ := xbW_ex h
  have F2 : Fr s_Sentence_read σ σ3 := Fr.call F1 (fr_Sentence_readCondition e2) (rfl)
  rcases ite_ex h with ⟨-, h⟩ | ⟨-, h⟩
  · cases h
    exact F2
  · obtain ⟨r4, σ5, e3, h⟩ := xbW_ex h
    have F3 : Fr s_Sentence_read σ σ5 := Fr.call F2 (fr_Tokens_isDone e3) (rfl)
    rcases ite_ex h with ⟨-, h⟩ | ⟨-, h⟩
    · cases h
      exact F3
    · cases h
      exact F3
theorem fr_Sentence_copyFrom_18 {a0 : Nat} {a1 : Nat} : ∀ (n : Nat) {l2 : Int} {σ : xSt} {r : (xSt)}, f_Sentence_copyFrom_18 a0 a1 n l2 σ = some r → Fr (s_Sentence_copyFrom a0 a1) σ r := by
  intro n
  induction n with
  | zero => exact fun h => nomatch h
  | succ n ih =>
    intro l2 σ r h
    unfold f_Sentence_copyFrom_18 at h
    rcases ite_ex h with ⟨-, h⟩ | ⟨-, h⟩
    · obtain ⟨-, h⟩ := gu_ex h
      obtain ⟨-, h⟩ := gu_ex h
      obtain ⟨σ3, e1, h⟩ := xlet_ex h
      have F1 : Fr (s_Sentence_copyFrom a0 a1) σ σ3 := Fr.up Fr.rf e1 (by simp [inS, s_Sentence_copyFrom])
      obtain ⟨-, h⟩ := gu_ex h
      obtain ⟨-, h⟩ := gu_ex h
      obtain ⟨σ4, e2, h⟩ := xlet_ex h
      have F2 : Fr (s_Sentence_copyFrom a0 a1) σ σ4 := Fr.up F1 e2 (by simp [inS, s_Sentence_copyFrom])
      obtain ⟨-, h⟩ := gu_ex h
      obtain ⟨-, h⟩ := gu_ex h
      obtain ⟨σ5, e3, h⟩ := xlet_ex h
      have F3 : Fr (s_Sentence_copyFrom a0 a1) σ σ5 := Fr.up F2 e3 (by simp [inS, s_Sentence_copyFrom])
      obtain ⟨x6, -, h⟩ := xlet_ex h
      exact Fr.call F3 (ih h) (subL_rf _)
    · cases h
      exact Fr.rf
theorem fr_Sentence_copyFrom {a0 : Nat} {a1 : Nat} {σ : xSt} {r : (xSt)} (h : f_Sentence_copyFrom a0 a1 σ = some r) : Fr (s_Sentence_copyFrom a0 a1) σ r := by
  unfold f_Sentence_copyFrom at h
  obtain ⟨σ1, e1, h⟩ := xlet_ex h
  have F1 : Fr (s_Sentence_copyFrom a0 a1) σ σ1 := Fr.up Fr.rf e1 (by simp [inS, s_Sentence_copyFrom])
  obtain ⟨σ2, e2, h⟩ := xlet_ex h
  have F2 : Fr (s_Sentence_copyFrom a0 a1) σ σ2 := Fr.up F1 e2 (by simp [inS, s_Sentence_copyFrom])
  exact Fr.call F2 (fr_Sentence_copyFrom_18 _ h) (subL_rf _)
theorem fr_X_sentence {σ : xSt} {r : (Int × xSt)} (h : f_X_sentence σ = some r) : Fr s_X_sentence σ r.2 := by
  unfold f_X_sentence at h
  obtain ⟨r1, σ2, e1, h⟩ := xbW_ex h
  have F1 : Fr s_X_sentence σ σ2 := Fr.call Fr.rf (fr_X_takeTape e1) (rfl)
  obtain ⟨σ3, e2, h⟩ := xbR_ex h
  have F2 : Fr s_X_sentence σ σ3 := Fr.call F1 (fr_Tokens_begin e2) (rfl)
  obtain ⟨r4, σ5, e3, h⟩ := xbW_ex h
  have F3 : Fr s_X_sentence σ σ5 := Fr.call F2 (fr_Sentence_read e3) (rfl)
  obtain ⟨σ6, e4, h⟩ := xlet_ex h
  have F4 : Fr s_X_sentence σ σ6 := Fr.up F3 e4 (rfl)
  rcases ite_ex h with ⟨-, h⟩ | ⟨-, h⟩
  · cases h
    exact F4
  · obtain ⟨σ7, e5, h⟩ := xbR_ex h
    have F5 : Fr s_X_sentence σ σ7 := Fr.call F4 (fr_Sentence_copyFrom e5) (rfl)
    cases h
    exact F5
theorem fr_X_said_58 : ∀ (n : Nat) {l1 : Int} {l2 : Int} {l3 : Int} {σ : xSt} {r : (Int × xSt)}, f_X_said_58  n l1 l2 l3 σ = some r → Fr s_X_said σ r.2 := by
  intro n
  induction n with
  | zero => exact fun h => nomatch h
  | succ n ih =>
    intro l1 l2 l3 σ r h
    unfold f_X_said_58 at h
    rcases ite_ex h with ⟨-, h⟩ | ⟨-, h⟩
    · obtain ⟨r4, -, h⟩ := xbR_ex h
      rcases ite_ex h with ⟨-, h⟩ | ⟨-, h⟩
      · obtain ⟨x5, -, h⟩ := xlet_ex h
        exact Fr.call Fr.rf (ih h) (subL_rf _)
      · rcases ite_ex h with ⟨-, h⟩ | ⟨-, h⟩
        · cases h
          exact Fr.rf
        · obtain ⟨x6, -, h⟩ := xlet_ex h
          obtain ⟨x7, -, h⟩ := xlet_ex h
          exact Fr.call Fr.rf (ih h) (subL_rf _)
    · rcases ite_ex h with ⟨-, h⟩ | ⟨-, h⟩
      · cases h
        exact Fr.rf
      · cases h
        exact Fr.rf
theorem fr_X_said {p1 : Int} {σ : xSt} {r : (Int × xSt)} (h : f_X_said p1 σ = some r) : Fr s_X_said σ r.2 := by
  unfold f_X_said at h
  rcases ite_ex h with ⟨-, h⟩ | ⟨-, h⟩
  · cases h
    exact Fr.rf
  · obtain ⟨r1, -, h⟩ := xbR_ex h
    rcases ite_ex h with ⟨-, h⟩ | ⟨-, h⟩
    · cases h
      exact Fr.rf
    · obtain ⟨r2, -, h⟩ := xbR_ex h
      rcases ite_ex h with ⟨-, h⟩ | ⟨-, h⟩
      · cases h
        exact Fr.rf
      · obtain ⟨σ3, e3, h⟩ := xbR_ex h
        have F3 : Fr s_X_said σ σ3 := Fr.call Fr.rf (fr_Odds_tellPolynomials e3) (rfl)
        exact Fr.call F3 (fr_X_said_58 _ h) (subL_rf _)
theorem fr_M_refuse {σ : xSt} {r : (Int × xSt)} (h : f_M_refuse σ = some r) : Fr s_M_refuse σ r.2 := by
  unfold f_M_refuse at h
  obtain ⟨σ1, e1, h⟩ := xlet_ex h
  have F1 : Fr s_M_refuse σ σ1 := Fr.up Fr.rf e1 (rfl)
  cases h
  exact F1
theorem fr_M_refuseLong {σ : xSt} {r : (Int × xSt)} (h : f_M_refuseLong σ = some r) : Fr s_M_refuseLong σ r.2 := by
  unfold f_M_refuseLong at h
  obtain ⟨σ1, e1, h⟩ := xlet_ex h
  have F1 : Fr s_M_refuseLong σ σ1 := Fr.up Fr.rf e1 (rfl)
  cases h
  exact F1
theorem fr_M_come_3 : ∀ (n : Nat) {l1 : Int} {l2 : Int} {σ : xSt} {r : (xSt)}, f_M_come_3  n l1 l2 σ = some r → Fr s_M_come σ r := by
  intro n
  induction n with
  | zero => exact fun h => nomatch h
  | succ n ih =>
    intro l1 l2 σ r h
    unfold f_M_come_3 at h
    rcases ite_ex h with ⟨-, h⟩ | ⟨-, h⟩
    · cases h
      exact Fr.rf
    · obtain ⟨-, h⟩ := gu_ex h
      obtain ⟨σ1, e1, h⟩ := xlet_ex h
      have F1 : Fr s_M_come σ σ1 := Fr.up Fr.rf e1 (rfl)
      obtain ⟨σ2, e2, h⟩ := xlet_ex h
      have F2 : Fr s_M_come σ σ2 := Fr.up F1 e2 (rfl)
      obtain ⟨x3, -, h⟩ := xlet_ex h
      exact Fr.call F2 (ih h) (subL_rf _)
theorem fr_M_come {p1 : Int} {σ : xSt} {r : (xSt)} (h : f_M_come p1 σ = some r) : Fr s_M_come σ r := by
  unfold f_M_come at h
  exact Fr.call Fr.rf (fr_M_come_3 _ h) (subL_rf _)
theorem fr_M_feed {p1 : Int} {p2 : Int} {p3 : Int} {p4 : Int} {p5 : Int} {σ : xSt} {r : (Int × xSt)} (h : f_M_feed p1 p2 p3 p4 p5 σ = some r) : Fr s_M_feed σ r.2 := by
  unfold f_M_feed at h
  obtain ⟨σ1, e1, h⟩ := xlet_ex h
  have F1 : Fr s_M_feed σ σ1 := Fr.up Fr.rf e1 (rfl)
  rcases ite_ex h with ⟨-, h⟩ | ⟨-, h⟩
  · cases h
    exact F1
  · obtain ⟨σ2, e2, h⟩ := xbR_ex h
    have F2 : Fr s_M_feed σ σ2 := Fr.call F1 (fr_M_come e2) (rfl)
    obtain ⟨σ3, e3, h⟩ := xbR_ex h
    have F3 : Fr s_M_feed σ σ3 := Fr.call F2 (fr_M_come e3) (rfl)
    obtain ⟨σ4, e4, h⟩ := xbR_ex h
    have F4 : Fr s_M_feed σ σ4 := Fr.call F3 (fr_M_come e4) (rfl)
    obtain ⟨σ5, e5, h⟩ := xbR_ex h
    have F5 : Fr s_M_feed σ σ5 := Fr.call F4 (fr_M_come e5) (rfl)
    obtain ⟨σ6, e6, h⟩ := xbR_ex h
    have F6 : Fr s_M_feed σ σ6 := Fr.call F5 (fr_M_come e6) (rfl)
    cases h
    exact F6
theorem fr_M_end {p1 : Int} {σ : xSt} {r : (Int × xSt)} (h : f_M_end p1 σ = some r) : Fr s_M_end σ r.2 := by
  unfold f_M_end at h
  obtain ⟨σ1, e1, h⟩ := xlet_ex h
  have F1 : Fr s_M_end σ σ1 := Fr.up Fr.rf e1 (rfl)
  rcases ite_ex h with ⟨-, h⟩ | ⟨-, h⟩
  · cases h
    exact F1
  · rcases ite_ex h with ⟨-, h⟩ | ⟨-, h⟩
    · cases h
      exact F1
    · obtain ⟨σ2, e2, h⟩ := xlet_ex h
      have F2 : Fr s_M_end σ σ2 := Fr.up F1 e2 (rfl)
      cases h
      exact F2
theorem fr_M_gather {σ : xSt} {r : (Int × xSt)} (h : f_M_gather σ = some r) : Fr s_M_gather σ r.2 := by
  unfold f_M_gather at h
  obtain ⟨x1, -, h⟩ := xlet_ex h
  obtain ⟨σ2, e1, h⟩ := xlet_ex h
  have F1 : Fr s_M_gather σ σ2 := Fr.up Fr.rf e1 (rfl)
  cases h
  exact F1
theorem fr_M_go_39 {k0 : (xSt → Option (xSt))} (hk0 : ∀ {σ : xSt} {r : (xSt)}, k0 σ = some r → Fr s_M_go σ r) {σ : xSt} {r : (xSt)} (h : f_M_go_39 k0 σ = some r) : Fr s_M_go σ r := by
  unfold f_M_go_39 at h
  obtain ⟨σ1, e1, h⟩ := xlet_ex h
  have F1 : Fr s_M_go σ σ1 := Fr.up Fr.rf e1 (rfl)
  exact Fr.call F1 (hk0 h) (rfl)
theorem fr_M_go_185 {l1 : Int} {s0 : Int} {σ : xSt} {r : (xSt)} (h : f_M_go_185 l1 s0 σ = some r) : Fr s_M_go σ r := by
  unfold f_M_go_185 at h
  obtain ⟨σ9, e1, h⟩ := xlet_ex h
  have F1 : Fr s_M_go σ σ9 := Fr.up Fr.rf e1 (rfl)
  obtain ⟨σ10, e2, h⟩ := xlet_ex h
  have F2 : Fr s_M_go σ σ10 := Fr.up F1 e2 (rfl)
  obtain ⟨σ11, e3, h⟩ := xlet_ex h
  have F3 : Fr s_M_go σ σ11 := Fr.up F2 e3 (rfl)
  cases h
  exact F3
theorem fr_M_go_180 {l1 : Int} {σ : xSt} {r : (xSt)} (h : f_M_go_180 l1 σ = some r) : Fr s_M_go σ r := by
  unfold f_M_go_180 at h
  exact Fr.call Fr.rf (fr_M_go_185 h) (subL_rf _)
theorem fr_M_go_343 {k221 : (Int → Int → xSt → Option (xSt))} {l2 : Int} {l3 : Int} (hk221 : ∀ {z0 : Int} {z1 : Int} {σ : xSt} {r : (xSt)}, k221 z0 z1 σ = some r → Fr s_M_go σ r) {σ : xSt} {r : (xSt)} (h : f_M_go_343 k221 l2 l3 σ = some r) : Fr s_M_go σ r := by
  unfold f_M_go_343 at h
  obtain ⟨σ24, e1, h⟩ := xlet_ex h
  have F1 : Fr s_M_go σ σ24 := Fr.up Fr.rf e1 (rfl)
  exact Fr.call F1 (hk221 h) (rfl)
theorem fr_M_go_313 {k221 : (Int → Int → xSt → Option (xSt))} {l2 : Int} {l3 : Int} {l4 : Int} (hk221 : ∀ {z0 : Int} {z1 : Int} {σ : xSt} {r : (xSt)}, k221 z0 z1 σ = some r → Fr s_M_go σ r) {σ : xSt} {r : (xSt)} (h : f_M_go_313 k221 l2 l3 l4 σ = some r) : Fr s_M_go σ r := by
  unfold f_M_go_313 at h
  rcases ite_ex h with ⟨-, h⟩ | ⟨-, h⟩
  · obtain ⟨σ23, e1, h⟩ := xlet_ex h
    have F1 : Fr s_M_go σ σ23 := Fr.up Fr.rf e1 (rfl)
    exact Fr.call F1 (fr_M_go_343 hk221 h) (subL_rf _)
  · exact Fr.call Fr.rf (fr_M_go_343 hk221 h) (subL_rf _)
theorem fr_M_go_278 {k221 : (Int → Int → xSt → Option (xSt))} {l2 : Int} {l4 : Int} {s0 : Int} (hk221 : ∀ {z0 : Int} {z1 : Int} {σ : xSt} {r : (xSt)}, k221 z0 z1 σ = some r → Fr s_M_go σ r) {σ : xSt} {r : (xSt)} (h : f_M_go_278 k221 l2 l4 s0 σ = some r) : Fr s_M_go σ r := by
  unfold f_M_go_278 at h
  rcases ite_ex h with ⟨-, h⟩ | ⟨-, h⟩
  · obtain ⟨σ22, e1, h⟩ := xlet_ex h
    have F1 : Fr s_M_go σ σ22 := Fr.up Fr.rf e1 (rfl)
    exact Fr.call F1 (fr_M_go_313 hk221 h) (subL_rf _)
  · exact Fr.call Fr.rf (fr_M_go_313 hk221 h) (subL_rf _)
theorem fr_M_go_277 {k221 : (Int → Int → xSt → Option (xSt))} {l2 : Int} {l4 : Int} (hk221 : ∀ {z0 : Int} {z1 : Int} {σ : xSt} {r : (xSt)}, k221 z0 z1 σ = some r → Fr s_M_go σ r) {σ : xSt} {r : (xSt)} (h : f_M_go_277 k221 l2 l4 σ = some r) : Fr s_M_go σ r := by
  unfold f_M_go_277 at h
  exact Fr.call Fr.rf (fr_M_go_278 hk221 h) (subL_rf _)
theorem fr_M_go_249 {k221 : (Int → Int → xSt → Option (xSt))} {l2 : Int} {l3 : Int} (hk221 : ∀ {z0 : Int} {z1 : Int} {σ : xSt} {r : (xSt)}, k221 z0 z1 σ = some r → Fr s_M_go σ r) {σ : xSt} {r : (xSt)} (h : f_M_go_249 k221 l2 l3 σ = some r) : Fr s_M_go σ r := by
  unfold f_M_go_249 at h
  obtain ⟨-, h⟩ := gu_ex h
  obtain ⟨x19, -, h⟩ := xlet_ex h
  rcases ite_ex h with ⟨-, h⟩ | ⟨-, h⟩
  · exact Fr.call Fr.rf (fr_M_go_277 hk221 h) (subL_rf _)
  · obtain ⟨r20, -, h⟩ := xbR_ex h
    rcases ite_ex h with ⟨-, h⟩ | ⟨-, h⟩
    · exact Fr.call Fr.rf (fr_M_go_278 hk221 h) (subL_rf _)
    · exact Fr.call Fr.rf (fr_M_go_277 hk221 h) (subL_rf _)
theorem fr_M_go_396 {s0 : Int} {σ : xSt} {r : (xSt)} (h : f_M_go_396 s0 σ = some r) : Fr s_M_go σ r := by
  unfold f_M_go_396 at h
  obtain ⟨σ21, e1, h⟩ := xlet_ex h
  have F1 : Fr s_M_go σ σ21 := Fr.up Fr.rf e1 (rfl)
  cases h
  exact F1
theorem fr_M_go_383 {σ : xSt} {r : (xSt)} (h : f_M_go_383 σ = some r) : Fr s_M_go σ r := by
  unfold f_M_go_383 at h
  exact Fr.call Fr.rf (fr_M_go_396 h) (subL_rf _)
theorem fr_M_go_380 {l2 : Int} {s0 : Int} {s1 : Int} {σ : xSt} {r : (xSt)} (h : f_M_go_380 l2 s0 s1 σ = some r) : Fr s_M_go σ r := by
  unfold f_M_go_380 at h
  rcases ite_ex h with ⟨-, h⟩ | ⟨-, h⟩
  · exact Fr.call Fr.rf (fr_M_go_383 h) (subL_rf _)
  · rcases ite_ex h with ⟨-, h⟩ | ⟨-, h⟩
    · exact Fr.call Fr.rf (fr_M_go_396 h) (subL_rf _)
    · exact Fr.call Fr.rf (fr_M_go_396 h) (subL_rf _)
theorem fr_M_go_221 : ∀ (n : Nat) {l2 : Int} {l3 : Int} {σ : xSt} {r : (xSt)}, f_M_go_221  n l2 l3 σ = some r → Fr s_M_go σ r := by
  intro n
  induction n with
  | zero => exact fun h => nomatch h
  | succ n ih =>
    intro l2 l3 σ r h
    unfold f_M_go_221 at h
    obtain ⟨r15, -, h⟩ := xbR_ex h
    obtain ⟨r16, -, h⟩ := xbR_ex h
    rcases ite_ex h with ⟨-, h⟩ | ⟨-, h⟩
    · obtain ⟨r17, -, h⟩ := xbR_ex h
      obtain ⟨r18, -, h⟩ := xbR_ex h
      rcases ite_ex h with ⟨-, h⟩ | ⟨-, h⟩
      · rcases ite_ex h with ⟨-, h⟩ | ⟨-, h⟩
        · exact Fr.call Fr.rf (fr_M_go_383 h) (subL_rf _)
        · rcases ite_ex h with ⟨-, h⟩ | ⟨-, h⟩
          · exact Fr.call Fr.rf (fr_M_go_380 h) (subL_rf _)
          · exact Fr.call Fr.rf (fr_M_go_380 h) (subL_rf _)
      · exact Fr.call Fr.rf (fr_M_go_249 (fun h => ih h) h) (subL_rf _)
    · exact Fr.call Fr.rf (fr_M_go_249 (fun h => ih h) h) (subL_rf _)
theorem fr_M_go_204 {l1 : Int} {σ : xSt} {r : (xSt)} (h : f_M_go_204 l1 σ = some r) : Fr s_M_go σ r := by
  unfold f_M_go_204 at h
  obtain ⟨r12, -, h⟩ := xbR_ex h
  obtain ⟨σ13, e2, h⟩ := xlet_ex h
  have F2 : Fr s_M_go σ σ13 := Fr.up Fr.rf e2 (rfl)
  obtain ⟨σ14, e3, h⟩ := xlet_ex h
  have F3 : Fr s_M_go σ σ14 := Fr.up F2 e3 (rfl)
  exact Fr.call F3 (fr_M_go_221 _ h) (subL_rf _)
theorem fr_M_go_96 {σ : xSt} {r : (xSt)} (h : f_M_go_96 σ = some r) : Fr s_M_go σ r := by
  unfold f_M_go_96 at h
  rcases ite_ex h with ⟨-, h⟩ | ⟨-, h⟩
  · obtain ⟨-, h⟩ := gu_ex h
    obtain ⟨x5, -, h⟩ := xlet_ex h
    obtain ⟨r6, -, h⟩ := xbR_ex h
    rcases ite_ex h with ⟨-, h⟩ | ⟨-, h⟩
    · obtain ⟨r7, -, h⟩ := xbR_ex h
      rcases ite_ex h with ⟨-, h⟩ | ⟨-, h⟩
      · rcases ite_ex h with ⟨-, h⟩ | ⟨-, h⟩
        · exact Fr.call Fr.rf (fr_M_go_180 h) (subL_rf _)
        · rcases ite_ex h with ⟨-, h⟩ | ⟨-, h⟩
          · exact Fr.call Fr.rf (fr_M_go_180 h) (subL_rf _)
          · rcases ite_ex h with ⟨-, h⟩ | ⟨-, h⟩
            · exact Fr.call Fr.rf (fr_M_go_180 h) (subL_rf _)
            · rcases ite_ex h with ⟨-, h⟩ | ⟨-, h⟩
              · exact Fr.call Fr.rf (fr_M_go_180 h) (subL_rf _)
              · rcases ite_ex h with ⟨-, h⟩ | ⟨-, h⟩
                · exact Fr.call Fr.rf (fr_M_go_180 h) (subL_rf _)
                · rcases ite_ex h with ⟨-, h⟩ | ⟨-, h⟩
                  · exact Fr.call Fr.rf (fr_M_go_180 h) (subL_rf _)
                  · rcases ite_ex h with ⟨-, h⟩ | ⟨-, h⟩
                    · exact Fr.call Fr.rf (fr_M_go_180 h) (subL_rf _)
                    · exact Fr.call Fr.rf (fr_M_go_185 h) (subL_rf _)
      · exact Fr.call Fr.rf (fr_M_go_204 h) (subL_rf _)
    · exact Fr.call Fr.rf (fr_M_go_204 h) (subL_rf _)
  · obtain ⟨σ8, e3, h⟩ := xlet_ex h
    have F3 : Fr s_M_go σ σ8 := Fr.up Fr.rf e3 (rfl)
    cases h
    exact F3
theorem fr_M_go_52 {σ : xSt} {r : (xSt)} (h : f_M_go_52 σ = some r) : Fr s_M_go σ r := by
  unfold f_M_go_52 at h
  obtain ⟨σ2, e1, h⟩ := xlet_ex h
  have F1 : Fr s_M_go σ σ2 := Fr.up Fr.rf e1 (rfl)
  rcases ite_ex h with ⟨-, h⟩ | ⟨-, h⟩
  · rcases ite_ex h with ⟨-, h⟩ | ⟨-, h⟩
    · exact Fr.call F1 (fr_M_go_96 h) (subL_rf _)
    · obtain ⟨σ3, e2, h⟩ := xlet_ex h
      have F2 : Fr s_M_go σ σ3 := Fr.up F1 e2 (rfl)
      obtain ⟨σ4, e3, h⟩ := xlet_ex h
      have F3 : Fr s_M_go σ σ4 := Fr.up F2 e3 (rfl)
      cases h
      exact F3
  · exact Fr.call F1 (fr_M_go_96 h) (subL_rf _)
theorem fr_M_go_0 : ∀ (n : Nat) {σ : xSt} {r : (xSt)}, f_M_go_0  n σ = some r → Fr s_M_go σ r := by
  intro n
  induction n with
  | zero => exact fun h => nomatch h
  | succ n ih =>
    intro σ r h
    unfold f_M_go_0 at h
    rcases ite_ex h with ⟨-, h⟩ | ⟨-, h⟩
    · obtain ⟨-, h⟩ := gu_ex h
      rcases ite_ex h with ⟨-, h⟩ | ⟨-, h⟩
      · exact Fr.call Fr.rf (fr_M_go_39 (fun h => ih h) h) (subL_rf _)
      · obtain ⟨-, h⟩ := gu_ex h
        rcases ite_ex h with ⟨-, h⟩ | ⟨-, h⟩
        · exact Fr.call Fr.rf (fr_M_go_39 (fun h => ih h) h) (subL_rf _)
        · exact Fr.call Fr.rf (fr_M_go_52 h) (subL_rf _)
    · exact Fr.call Fr.rf (fr_M_go_52 h) (subL_rf _)
theorem fr_M_go {σ : xSt} {r : (xSt)} (h : f_M_go σ = some r) : Fr s_M_go σ r := by
  unfold f_M_go at h
  exact Fr.call Fr.rf (fr_M_go_0 _ h) (subL_rf _)
theorem fr_M_bad_14 {s0 : Int} {σ : xSt} {r : (Int × xSt)} (h : f_M_bad_14 s0 σ = some r) : Fr s_M_bad σ r.2 := by
  unfold f_M_bad_14 at h
  obtain ⟨σ1, e1, h⟩ := xlet_ex h
  have F1 : Fr s_M_bad σ σ1 := Fr.up Fr.rf e1 (rfl)
  obtain ⟨σ2, e2, h⟩ := xlet_ex h
  have F2 : Fr s_M_bad σ σ2 := Fr.up F1 e2 (rfl)
  cases h
  exact F2
theorem fr_M_bad {p1 : Int} {σ : xSt} {r : (Int × xSt)} (h : f_M_bad p1 σ = some r) : Fr s_M_bad σ r.2 := by
  unfold f_M_bad at h
  rcases ite_ex h with ⟨-, h⟩ | ⟨-, h⟩
  · exact Fr.call Fr.rf (fr_M_bad_14 h) (subL_rf _)
  · exact Fr.call Fr.rf (fr_M_bad_14 h) (subL_rf _)
theorem fr_M_readNumber {p1 : Int} {p2 : Int} {σ : xSt} {r : (Int × xSt)} (h : f_M_readNumber p1 p2 σ = some r) : Fr s_M_readNumber σ r.2 := by
  unfold f_M_readNumber at h
  rcases ite_ex h with ⟨-, h⟩ | ⟨-, h⟩
  · obtain ⟨r1, -, h⟩ := xbR_ex h
    rcases ite_ex h with ⟨-, h⟩ | ⟨-, h⟩
    · obtain ⟨r2, σ3, e2, h⟩ := xbW_ex h
      have F2 : Fr s_M_readNumber σ σ3 := Fr.call Fr.rf (fr_M_bad e2) (rfl)
      cases h
      exact F2
    · obtain ⟨σ4, e3, h⟩ := xlet_ex h
      have F3 : Fr s_M_readNumber σ σ4 := Fr.up Fr.rf e3 (rfl)
      obtain ⟨σ5, e4, h⟩ := xbR_ex h
      have F4 : Fr s_M_readNumber σ σ5 := Fr.call F3 (fr_M_go e4) (rfl)
      cases h
      exact F4
  · obtain ⟨r6, σ7, e5, h⟩ := xbW_ex h
    have F5 : Fr s_M_readNumber σ σ7 := Fr.call Fr.rf (fr_M_bad e5) (rfl)
    cases h
    exact F5
theorem fr_M_readSign {p1 : Int} {σ : xSt} {r : (Int × xSt)} (h : f_M_readSign p1 σ = some r) : Fr s_M_readSign σ r.2 := by
  unfold f_M_readSign at h
  obtain ⟨r1, -, h⟩ := xbR_ex h
  rcases ite_ex h with ⟨-, h⟩ | ⟨-, h⟩
  · obtain ⟨r2, σ3, e2, h⟩ := xbW_ex h
    have F2 : Fr s_M_readSign σ σ3 := Fr.call Fr.rf (fr_M_bad e2) (rfl)
    cases h
    exact F2
  · obtain ⟨σ4, e3, h⟩ := xbR_ex h
    have F3 : Fr s_M_readSign σ σ4 := Fr.call Fr.rf (fr_M_go e3) (rfl)
    cases h
    exact F3
theorem fr_M_lay {σ : xSt} {r : (xSt)} (h : f_M_lay σ = some r) : Fr s_M_lay σ r := by
  unfold f_M_lay at h
  rcases ite_ex h with ⟨-, h⟩ | ⟨-, h⟩
  · obtain ⟨σ1, e1, h⟩ := xlet_ex h
    have F1 : Fr s_M_lay σ σ1 := Fr.up Fr.rf e1 (rfl)
    obtain ⟨σ2, e2, h⟩ := xlet_ex h
    have F2 : Fr s_M_lay σ σ2 := Fr.up F1 e2 (rfl)
    cases h
    exact F2
  · cases h
    exact Fr.rf
theorem fr_M_begin {p1 : Int} {σ : xSt} {r : (xSt)} (h : f_M_begin p1 σ = some r) : Fr s_M_begin σ r := by
  unfold f_M_begin at h
  obtain ⟨σ1, e1, h⟩ := xlet_ex h
  have F1 : Fr s_M_begin σ σ1 := Fr.up Fr.rf e1 (rfl)
  obtain ⟨σ2, e2, h⟩ := xbR_ex h
  have F2 : Fr s_M_begin σ σ2 := Fr.call F1 (fr_M_lay e2) (rfl)
  obtain ⟨r3, σ4, e3, h⟩ := xbW_ex h
  have F3 : Fr s_M_begin σ σ4 := Fr.call F2 (fr_M_gather e3) (rfl)
  obtain ⟨σ5, e4, h⟩ := xlet_ex h
  have F4 : Fr s_M_begin σ σ5 := Fr.up F3 e4 (rfl)
  obtain ⟨σ6, e5, h⟩ := xlet_ex h
  have F5 : Fr s_M_begin σ σ6 := Fr.up F4 e5 (rfl)
  obtain ⟨σ7, e6, h⟩ := xlet_ex h
  have F6 : Fr s_M_begin σ σ7 := Fr.up F5 e6 (rfl)
  obtain ⟨σ8, e7, h⟩ := xlet_ex h
  have F7 : Fr s_M_begin σ σ8 := Fr.up F6 e7 (rfl)
  obtain ⟨σ9, e8, h⟩ := xbR_ex h
  have F8 : Fr s_M_begin σ σ9 := Fr.call F7 (fr_M_go e8) (rfl)
  cases h
  exact F8
theorem fr_M_readNew_57 {σ : xSt} {r : (Int × xSt)} (h : f_M_readNew_57 σ = some r) : Fr s_M_readNew σ r.2 := by
  unfold f_M_readNew_57 at h
  obtain ⟨r8, σ9, e1, h⟩ := xbW_ex h
  have F1 : Fr s_M_readNew σ σ9 := Fr.call Fr.rf (fr_M_bad e1) (rfl)
  cases h
  exact F1
theorem fr_M_readNew {p1 : Int} {σ : xSt} {r : (Int × xSt)} (h : f_M_readNew p1 σ = some r) : Fr s_M_readNew σ r.2 := by
  unfold f_M_readNew at h
  obtain ⟨r1, -, h⟩ := xbR_ex h
  rcases ite_ex h with ⟨-, h⟩ | ⟨-, h⟩
  · obtain ⟨r2, σ3, e2, h⟩ := xbW_ex h
    have F2 : Fr s_M_readNew σ σ3 := Fr.call Fr.rf (fr_M_bad e2) (rfl)
    cases h
    exact F2
  · obtain ⟨r4, -, h⟩ := xbR_ex h
    rcases ite_ex h with ⟨-, h⟩ | ⟨-, h⟩
    · obtain ⟨r5, -, h⟩ := xbR_ex h
      rcases ite_ex h with ⟨-, h⟩ | ⟨-, h⟩
      · obtain ⟨-, h⟩ := gu_ex h
        obtain ⟨σ6, e5, h⟩ := xlet_ex h
        have F5 : Fr s_M_readNew σ σ6 := Fr.up Fr.rf e5 (rfl)
        obtain ⟨σ7, e6, h⟩ := xbR_ex h
        have F6 : Fr s_M_readNew σ σ7 := Fr.call F5 (fr_M_go e6) (rfl)
        cases h
        exact F6
      · exact Fr.call Fr.rf (fr_M_readNew_57 h) (subL_rf _)
    · exact Fr.call Fr.rf (fr_M_readNew_57 h) (subL_rf _)
theorem fr_M_readOf_27 {l2 : Int} {l3 : Int} {s0 : Int} {σ : xSt} {r : (Int × xSt)} (h : f_M_readOf_27 l2 l3 s0 σ = some r) : Fr s_M_readOf σ r.2 := by
  unfold f_M_readOf_27 at h
  obtain ⟨r4, σ5, e1, h⟩ := xbW_ex h
  have F1 : Fr s_M_readOf σ σ5 := Fr.call Fr.rf (fr_M_readNumber e1) (rfl)
  rcases ite_ex h with ⟨-, h⟩ | ⟨-, h⟩
  · cases h
    exact F1
  · obtain ⟨σ6, e2, h⟩ := xlet_ex h
    have F2 : Fr s_M_readOf σ σ6 := Fr.up F1 e2 (rfl)
    cases h
    exact F2
theorem fr_M_readOf {p1 : Int} {p2 : Int} {σ : xSt} {r : (Int × xSt)} (h : f_M_readOf p1 p2 σ = some r) : Fr s_M_readOf σ r.2 := by
  unfold f_M_readOf at h
  obtain ⟨r1, σ2, e1, h⟩ := xbW_ex h
  have F1 : Fr s_M_readOf σ σ2 := Fr.call Fr.rf (fr_M_readNumber e1) (rfl)
  rcases ite_ex h with ⟨-, h⟩ | ⟨-, h⟩
  · cases h
    exact F1
  · obtain ⟨x3, -, h⟩ := xlet_ex h
    rcases ite_ex h with ⟨-, h⟩ | ⟨-, h⟩
    · exact Fr.call F1 (fr_M_readOf_27 h) (subL_rf _)
    · exact Fr.call F1 (fr_M_readOf_27 h) (subL_rf _)
theorem fr_M_readCoin_41 : ∀ (n : Nat) {l1 : Int} {l2 : Int} {l3 : Int} {σ : xSt} {r : (Int × xSt)}, f_M_readCoin_41  n l1 l2 l3 σ = some r → Fr s_M_readCoin σ r.2 := by
  intro n
  induction n with
  | zero => exact fun h => nomatch h
  | succ n ih =>
    intro l1 l2 l3 σ r h
    unfold f_M_readCoin_41 at h
    rcases ite_ex h with ⟨-, h⟩ | ⟨-, h⟩
    · obtain ⟨-, h⟩ := gu_ex h
      obtain ⟨σ8, e1, h⟩ := xlet_ex h
      have F1 : Fr s_M_readCoin σ σ8 := Fr.up Fr.rf e1 (rfl)
      obtain ⟨x9, -, h⟩ := xlet_ex h
      exact Fr.call F1 (ih h) (subL_rf _)
    · obtain ⟨-, h⟩ := gu_ex h
      obtain ⟨σ10, e2, h⟩ := xlet_ex h
      have F2 : Fr s_M_readCoin σ σ10 := Fr.up Fr.rf e2 (rfl)
      obtain ⟨σ11, e3, h⟩ := xlet_ex h
      have F3 : Fr s_M_readCoin σ σ11 := Fr.up F2 e3 (rfl)
      obtain ⟨σ12, e4, h⟩ := xlet_ex h
      have F4 : Fr s_M_readCoin σ σ12 := Fr.up F3 e4 (rfl)
      obtain ⟨r13, -, h⟩ := xbR_ex h
      rcases ite_ex h with ⟨-, h⟩ | ⟨-, h⟩
      · obtain ⟨r14, σ15, e6, h⟩ := xbW_ex h
        have F6 : Fr s_M_readCoin σ σ15 := Fr.call F4 (fr_M_readOf e6) (rfl)
        rcases ite_ex h with ⟨-, h⟩ | ⟨-, h⟩
        · cases h
          exact F6
        · obtain ⟨-, h⟩ := gu_ex h
          obtain ⟨σ16, e7, h⟩ := xlet_ex h
          have F7 : Fr s_M_readCoin σ σ16 := Fr.up F6 e7 (rfl)
          obtain ⟨-, h⟩ := gu_ex h
          obtain ⟨σ17, e8, h⟩ := xlet_ex h
          have F8 : Fr s_M_readCoin σ σ17 := Fr.up F7 e8 (rfl)
          obtain ⟨-, h⟩ := gu_ex h
          obtain ⟨σ18, e9, h⟩ := xlet_ex h
          have F9 : Fr s_M_readCoin σ σ18 := Fr.up F8 e9 (rfl)
          cases h
          exact F9
      · rcases ite_ex h with ⟨-, h⟩ | ⟨-, h⟩
        · obtain ⟨σ19, e10, h⟩ := xlet_ex h
          have F10 : Fr s_M_readCoin σ σ19 := Fr.up F4 e10 (rfl)
          obtain ⟨σ20, e11, h⟩ := xbR_ex h
          have F11 : Fr s_M_readCoin σ σ20 := Fr.call F10 (fr_M_go e11) (rfl)
          cases h
          exact F11
        · obtain ⟨r21, σ22, e12, h⟩ := xbW_ex h
          have F12 : Fr s_M_readCoin σ σ22 := Fr.call F4 (fr_M_bad e12) (rfl)
          cases h
          exact F12
theorem fr_M_readCoin {σ : xSt} {r : (Int × xSt)} (h : f_M_readCoin σ = some r) : Fr s_M_readCoin σ r.2 := by
  unfold f_M_readCoin at h
  obtain ⟨x1, -, h⟩ := xlet_ex h
  rcases ite_ex h with ⟨-, h⟩ | ⟨-, h⟩
  · obtain ⟨r2, σ3, e1, h⟩ := xbW_ex h
    have F1 : Fr s_M_readCoin σ σ3 := Fr.call Fr.rf (fr_M_bad e1) (rfl)
    cases h
    exact F1
  · obtain ⟨σ4, e2, h⟩ := xbR_ex h
    have F2 : Fr s_M_readCoin σ σ4 := Fr.call Fr.rf (fr_M_go e2) (rfl)
    obtain ⟨r5, σ6, e3, h⟩ := xbW_ex h
    have F3 : Fr s_M_readCoin σ σ6 := Fr.call F2 (fr_M_readNew e3) (rfl)
    rcases ite_ex h with ⟨-, h⟩ | ⟨-, h⟩
    · cases h
      exact F3
    · obtain ⟨x7, -, h⟩ := xlet_ex h
      exact Fr.call F3 (fr_M_readCoin_41 _ h) (subL_rf _)
theorem fr_M_readWheel_125 {σ : xSt} {r : (Int × xSt)} (h : f_M_readWheel_125 σ = some r) : Fr s_M_readWheel σ r.2 := by
  unfold f_M_readWheel_125 at h
  obtain ⟨r20, σ21, e1, h⟩ := xbW_ex h
  have F1 : Fr s_M_readWheel σ σ21 := Fr.call Fr.rf (fr_M_bad e1) (rfl)
  cases h
  exact F1
theorem fr_M_readWheel_80 {k62 : (Int → xSt → Option (Int × xSt))} {l2 : Int} (hk62 : ∀ {z0 : Int} {σ : xSt} {r : (Int × xSt)}, k62 z0 σ = some r → Fr s_M_readWheel σ r.2) {σ : xSt} {r : (Int × xSt)} (h : f_M_readWheel_80 k62 l2 σ = some r) : Fr s_M_readWheel σ r.2 := by
  unfold f_M_readWheel_80 at h
  rcases ite_ex h with ⟨-, h⟩ | ⟨-, h⟩
  · obtain ⟨r11, -, h⟩ := xbR_ex h
    rcases ite_ex h with ⟨-, h⟩ | ⟨-, h⟩
    · exact Fr.call Fr.rf (fr_M_readWheel_125 h) (subL_rf _)
    · obtain ⟨-, h⟩ := gu_ex h
      rcases ite_ex h with ⟨-, h⟩ | ⟨-, h⟩
      · exact Fr.call Fr.rf (fr_M_readWheel_125 h) (subL_rf _)
      · obtain ⟨-, h⟩ := gu_ex h
        rcases ite_ex h with ⟨-, h⟩ | ⟨-, h⟩
        · obtain ⟨r12, σ13, e2, h⟩ := xbW_ex h
          have F2 : Fr s_M_readWheel σ σ13 := Fr.call Fr.rf (fr_M_bad e2) (rfl)
          cases h
          exact F2
        · obtain ⟨-, h⟩ := gu_ex h
          obtain ⟨-, h⟩ := gu_ex h
          obtain ⟨σ14, e3, h⟩ := xlet_ex h
          have F3 : Fr s_M_readWheel σ σ14 := Fr.up Fr.rf e3 (rfl)
          obtain ⟨-, h⟩ := gu_ex h
          obtain ⟨-, h⟩ := gu_ex h
          obtain ⟨σ15, e4, h⟩ := xlet_ex h
          have F4 : Fr s_M_readWheel σ σ15 := Fr.up F3 e4 (rfl)
          obtain ⟨-, h⟩ := gu_ex h
          obtain ⟨-, h⟩ := gu_ex h
          obtain ⟨σ16, e5, h⟩ := xlet_ex h
          have F5 : Fr s_M_readWheel σ σ16 := Fr.up F4 e5 (rfl)
          obtain ⟨σ17, e6, h⟩ := xbR_ex h
          have F6 : Fr s_M_readWheel σ σ17 := Fr.call F5 (fr_M_go e6) (rfl)
          exact Fr.call F6 (hk62 h) (rfl)
  · obtain ⟨r18, σ19, e7, h⟩ := xbW_ex h
    have F7 : Fr s_M_readWheel σ σ19 := Fr.call Fr.rf (fr_M_bad e7) (rfl)
    cases h
    exact F7
theorem fr_M_readWheel_62 : ∀ (n : Nat) {l2 : Int} {σ : xSt} {r : (Int × xSt)}, f_M_readWheel_62  n l2 σ = some r → Fr s_M_readWheel σ r.2 := by
  intro n
  induction n with
  | zero => exact fun h => nomatch h
  | succ n ih =>
    intro l2 σ r h
    unfold f_M_readWheel_62 at h
    obtain ⟨-, h⟩ := gu_ex h
    rcases ite_ex h with ⟨-, h⟩ | ⟨-, h⟩
    · exact Fr.call Fr.rf (fr_M_readWheel_80 (fun h => ih h) h) (subL_rf _)
    · rcases ite_ex h with ⟨-, h⟩ | ⟨-, h⟩
      · exact Fr.call Fr.rf (fr_M_readWheel_80 (fun h => ih h) h) (subL_rf _)
      · obtain ⟨σ10, e1, h⟩ := xlet_ex h
        have F1 : Fr s_M_readWheel σ σ10 := Fr.up Fr.rf e1 (rfl)
        cases h
        exact F1
theorem fr_M_readWheel_41 : ∀ (n : Nat) {l2 : Int} {l3 : Int} {σ : xSt} {r : (Int × xSt)}, f_M_readWheel_41  n l2 l3 σ = some r → Fr s_M_readWheel σ r.2 := by
  intro n
  induction n with
  | zero => exact fun h => nomatch h
  | succ n ih =>
    intro l2 l3 σ r h
    unfold f_M_readWheel_41 at h
    rcases ite_ex h with ⟨-, h⟩ | ⟨-, h⟩
    · obtain ⟨-, h⟩ := gu_ex h
      obtain ⟨σ8, e1, h⟩ := xlet_ex h
      have F1 : Fr s_M_readWheel σ σ8 := Fr.up Fr.rf e1 (rfl)
      obtain ⟨x9, -, h⟩ := xlet_ex h
      exact Fr.call F1 (ih h) (subL_rf _)
    · exact Fr.call Fr.rf (fr_M_readWheel_62 _ h) (subL_rf _)
theorem fr_M_readWheel {σ : xSt} {r : (Int × xSt)} (h : f_M_readWheel σ = some r) : Fr s_M_readWheel σ r.2 := by
  unfold f_M_readWheel at h
  obtain ⟨x1, -, h⟩ := xlet_ex h
  rcases ite_ex h with ⟨-, h⟩ | ⟨-, h⟩
  · obtain ⟨r2, σ3, e1, h⟩ := xbW_ex h
    have F1 : Fr s_M_readWheel σ σ3 := Fr.call Fr.rf (fr_M_bad e1) (rfl)
    cases h
    exact F1
  · obtain ⟨σ4, e2, h⟩ := xbR_ex h
    have F2 : Fr s_M_readWheel σ σ4 := Fr.call Fr.rf (fr_M_go e2) (rfl)
    obtain ⟨r5, σ6, e3, h⟩ := xbW_ex h
    have F3 : Fr s_M_readWheel σ σ6 := Fr.call F2 (fr_M_readNew e3) (rfl)
    rcases ite_ex h with ⟨-, h⟩ | ⟨-, h⟩
    · cases h
      exact F3
    · obtain ⟨x7, -, h⟩ := xlet_ex h
      exact Fr.call F3 (fr_M_readWheel_41 _ h) (subL_rf _)
theorem fr_M_readEnd {σ : xSt} {r : (Int × xSt)} (h : f_M_readEnd σ = some r) : Fr s_M_readEnd σ r.2 := by
  unfold f_M_readEnd at h
  obtain ⟨x1, -, h⟩ := xlet_ex h
  rcases ite_ex h with ⟨-, h⟩ | ⟨-, h⟩
  · obtain ⟨r2, σ3, e1, h⟩ := xbW_ex h
    have F1 : Fr s_M_readEnd σ σ3 := Fr.call Fr.rf (fr_M_bad e1) (rfl)
    cases h
    exact F1
  · obtain ⟨σ4, e2, h⟩ := xbR_ex h
    have F2 : Fr s_M_readEnd σ σ4 := Fr.call Fr.rf (fr_M_go e2) (rfl)
    obtain ⟨r5, σ6, e3, h⟩ := xbW_ex h
    have F3 : Fr s_M_readEnd σ σ6 := Fr.call F2 (fr_M_readNew e3) (rfl)
    rcases ite_ex h with ⟨-, h⟩ | ⟨-, h⟩
    · cases h
      exact F3
    · obtain ⟨-, h⟩ := gu_ex h
      obtain ⟨σ7, e4, h⟩ := xlet_ex h
      have F4 : Fr s_M_readEnd σ σ7 := Fr.up F3 e4 (rfl)
      obtain ⟨-, h⟩ := gu_ex h
      obtain ⟨σ8, e5, h⟩ := xlet_ex h
      have F5 : Fr s_M_readEnd σ σ8 := Fr.up F4 e5 (rfl)
      obtain ⟨σ9, e6, h⟩ := xlet_ex h
      have F6 : Fr s_M_readEnd σ σ9 := Fr.up F5 e6 (rfl)
      rcases ite_ex h with ⟨-, h⟩ | ⟨-, h⟩
      · obtain ⟨r10, σ11, e7, h⟩ := xbW_ex h
        have F7 : Fr s_M_readEnd σ σ11 := Fr.call F6 (fr_M_readOf e7) (rfl)
        rcases ite_ex h with ⟨-, h⟩ | ⟨-, h⟩
        · cases h
          exact F7
        · obtain ⟨-, h⟩ := gu_ex h
          obtain ⟨σ12, e8, h⟩ := xlet_ex h
          have F8 : Fr s_M_readEnd σ σ12 := Fr.up F7 e8 (rfl)
          obtain ⟨-, h⟩ := gu_ex h
          obtain ⟨σ13, e9, h⟩ := xlet_ex h
          have F9 : Fr s_M_readEnd σ σ13 := Fr.up F8 e9 (rfl)
          cases h
          exact F9
      · cases h
        exact F6
theorem fr_M_table_94 {k37 : (Int → xSt → Option (Int × xSt))} {l1 : Int} {s0 : Int} (hk37 : ∀ {z0 : Int} {σ : xSt} {r : (Int × xSt)}, k37 z0 σ = some r → Fr s_M_table σ r.2) {σ : xSt} {r : (Int × xSt)} (h : f_M_table_94 k37 l1 s0 σ = some r) : Fr s_M_table σ r.2 := by
  unfold f_M_table_94 at h
  rcases ite_ex h with ⟨-, h⟩ | ⟨-, h⟩
  · cases h
    exact Fr.rf
  · obtain ⟨r20, σ21, e1, h⟩ := xbW_ex h
    have F1 : Fr s_M_table σ σ21 := Fr.call Fr.rf (fr_M_readSign e1) (rfl)
    rcases ite_ex h with ⟨-, h⟩ | ⟨-, h⟩
    · cases h
      exact F1
    · obtain ⟨x22, -, h⟩ := xlet_ex h
      exact Fr.call F1 (hk37 h) (rfl)
theorem fr_M_table_192 : ∀ (n : Nat) {l1 : Int} {l2 : Int} {σ : xSt} {r : (Int × xSt)}, f_M_table_192  n l1 l2 σ = some r → Fr s_M_table σ r.2 := by
  intro n
  induction n with
  | zero => exact fun h => nomatch h
  | succ n ih =>
    intro l1 l2 σ r h
    unfold f_M_table_192 at h
    rcases ite_ex h with ⟨-, h⟩ | ⟨-, h⟩
    · obtain ⟨-, h⟩ := gu_ex h
      obtain ⟨-, h⟩ := gu_ex h
      obtain ⟨σ25, e1, h⟩ := xlet_ex h
      have F1 : Fr s_M_table σ σ25 := Fr.up Fr.rf e1 (rfl)
      obtain ⟨x26, -, h⟩ := xlet_ex h
      exact Fr.call F1 (ih h) (subL_rf _)
    · cases h
      exact Fr.rf
theorem fr_M_table_170 : ∀ (n : Nat) {l1 : Int} {l2 : Int} {σ : xSt} {r : (Int × xSt)}, f_M_table_170  n l1 l2 σ = some r → Fr s_M_table σ r.2 := by
  intro n
  induction n with
  | zero => exact fun h => nomatch h
  | succ n ih =>
    intro l1 l2 σ r h
    unfold f_M_table_170 at h
    rcases ite_ex h with ⟨-, h⟩ | ⟨-, h⟩
    · obtain ⟨-, h⟩ := gu_ex h
      obtain ⟨σ23, e1, h⟩ := xlet_ex h
      have F1 : Fr s_M_table σ σ23 := Fr.up Fr.rf e1 (rfl)
      obtain ⟨x24, -, h⟩ := xlet_ex h
      exact Fr.call F1 (ih h) (subL_rf _)
    · exact Fr.call Fr.rf (fr_M_table_192 _ h) (subL_rf _)
theorem fr_M_table_143 : ∀ (n : Nat) {l1 : Int} {l2 : Int} {σ : xSt} {r : (Int × xSt)}, f_M_table_143  n l1 l2 σ = some r → Fr s_M_table σ r.2 := by
  intro n
  induction n with
  | zero => exact fun h => nomatch h
  | succ n ih =>
    intro l1 l2 σ r h
    unfold f_M_table_143 at h
    rcases ite_ex h with ⟨-, h⟩ | ⟨-, h⟩
    · obtain ⟨-, h⟩ := gu_ex h
      obtain ⟨-, h⟩ := gu_ex h
      obtain ⟨σ18, e1, h⟩ := xlet_ex h
      have F1 : Fr s_M_table σ σ18 := Fr.up Fr.rf e1 (rfl)
      obtain ⟨x19, -, h⟩ := xlet_ex h
      exact Fr.call F1 (ih h) (subL_rf _)
    · exact Fr.call Fr.rf (fr_M_table_170 _ h) (subL_rf _)
theorem fr_M_table_37 : ∀ (n : Nat) {l1 : Int} {σ : xSt} {r : (Int × xSt)}, f_M_table_37  n l1 σ = some r → Fr s_M_table σ r.2 := by
  intro n
  induction n with
  | zero => exact fun h => nomatch h
  | succ n ih =>
    intro l1 σ r h
    unfold f_M_table_37 at h
    rcases ite_ex h with ⟨-, h⟩ | ⟨-, h⟩
    · obtain ⟨σ5, e1, h⟩ := xlet_ex h
      have F1 : Fr s_M_table σ σ5 := Fr.up Fr.rf e1 (rfl)
      obtain ⟨σ6, e2, h⟩ := xlet_ex h
      have F2 : Fr s_M_table σ σ6 := Fr.up F1 e2 (rfl)
      exact Fr.call F2 (fr_M_table_143 _ h) (subL_rf _)
    · obtain ⟨r7, -, h⟩ := xbR_ex h
      rcases ite_ex h with ⟨-, h⟩ | ⟨-, h⟩
      · obtain ⟨r8, -, h⟩ := xbR_ex h
        rcases ite_ex h with ⟨-, h⟩ | ⟨-, h⟩
        · obtain ⟨r9, -, h⟩ := xbR_ex h
          rcases ite_ex h with ⟨-, h⟩ | ⟨-, h⟩
          · obtain ⟨r10, σ11, e6, h⟩ := xbW_ex h
            have F6 : Fr s_M_table σ σ11 := Fr.call Fr.rf (fr_M_bad e6) (rfl)
            exact Fr.call F6 (fr_M_table_94 (fun h => ih h) h) (subL_rf _)
          · obtain ⟨r12, σ13, e7, h⟩ := xbW_ex h
            have F7 : Fr s_M_table σ σ13 := Fr.call Fr.rf (fr_M_readEnd e7) (rfl)
            exact Fr.call F7 (fr_M_table_94 (fun h => ih h) h) (subL_rf _)
        · obtain ⟨r14, σ15, e8, h⟩ := xbW_ex h
          have F8 : Fr s_M_table σ σ15 := Fr.call Fr.rf (fr_M_readWheel e8) (rfl)
          exact Fr.call F8 (fr_M_table_94 (fun h => ih h) h) (subL_rf _)
      · obtain ⟨r16, σ17, e9, h⟩ := xbW_ex h
        have F9 : Fr s_M_table σ σ17 := Fr.call Fr.rf (fr_M_readCoin e9) (rfl)
        exact Fr.call F9 (fr_M_table_94 (fun h => ih h) h) (subL_rf _)
theorem fr_M_table_9 : ∀ (n : Nat) {l1 : Int} {σ : xSt} {r : (Int × xSt)}, f_M_table_9  n l1 σ = some r → Fr s_M_table σ r.2 := by
  intro n
  induction n with
  | zero => exact fun h => nomatch h
  | succ n ih =>
    intro l1 σ r h
    unfold f_M_table_9 at h
    rcases ite_ex h with ⟨-, h⟩ | ⟨-, h⟩
    · obtain ⟨-, h⟩ := gu_ex h
      obtain ⟨σ2, e1, h⟩ := xlet_ex h
      have F1 : Fr s_M_table σ σ2 := Fr.up Fr.rf e1 (rfl)
      obtain ⟨x3, -, h⟩ := xlet_ex h
      exact Fr.call F1 (ih h) (subL_rf _)
    · obtain ⟨σ4, e2, h⟩ := xlet_ex h
      have F2 : Fr s_M_table σ σ4 := Fr.up Fr.rf e2 (rfl)
      exact Fr.call F2 (fr_M_table_37 _ h) (subL_rf _)
theorem fr_M_table {σ : xSt} {r : (Int × xSt)} (h : f_M_table σ = some r) : Fr s_M_table σ r.2 := by
  unfold f_M_table at h
  obtain ⟨σ1, e1, h⟩ := xbR_ex h
  have F1 : Fr s_M_table σ σ1 := Fr.call Fr.rf (fr_M_begin e1) (rfl)
  exact Fr.call F1 (fr_M_table_9 _ h) (subL_rf _)
theorem fr_M_fault {σ : xSt} {r : (Int × xSt)} (h : f_M_fault σ = some r) : Fr s_M_fault σ r.2 := by
  unfold f_M_fault at h
  obtain ⟨σ1, e1, h⟩ := xlet_ex h
  have F1 : Fr s_M_fault σ σ1 := Fr.up Fr.rf e1 (rfl)
  cases h
  exact F1
theorem fr_M_thing_21 {σ : xSt} {r : (Int × xSt)} (h : f_M_thing_21 σ = some r) : Fr s_M_thing σ r.2 := by
  unfold f_M_thing_21 at h
  obtain ⟨r7, σ8, e1, h⟩ := xbW_ex h
  have F1 : Fr s_M_thing σ σ8 := Fr.call Fr.rf (fr_M_refuse e1) (rfl)
  cases h
  exact F1
theorem fr_M_thing {p1 : Int} {p2 : Int} {σ : xSt} {r : (Int × xSt)} (h : f_M_thing p1 p2 σ = some r) : Fr s_M_thing σ r.2 := by
  unfold f_M_thing at h
  obtain ⟨σ1, e1, h⟩ := xbR_ex h
  have F1 : Fr s_M_thing σ σ1 := Fr.call Fr.rf (fr_M_lay e1) (rfl)
  obtain ⟨r2, -, h⟩ := xbR_ex h
  rcases ite_ex h with ⟨-, h⟩ | ⟨-, h⟩
  · exact Fr.call F1 (fr_M_thing_21 h) (subL_rf _)
  · obtain ⟨r3, -, h⟩ := xbR_ex h
    rcases ite_ex h with ⟨-, h⟩ | ⟨-, h⟩
    · exact Fr.call F1 (fr_M_thing_21 h) (subL_rf _)
    · obtain ⟨σ4, e4, h⟩ := xlet_ex h
      have F4 : Fr s_M_thing σ σ4 := Fr.up F1 e4 (rfl)
      rcases ite_ex h with ⟨-, h⟩ | ⟨-, h⟩
      · obtain ⟨r5, -, h⟩ := xbR_ex h
        cases h
        exact F4
      · rcases ite_ex h with ⟨-, h⟩ | ⟨-, h⟩
        · obtain ⟨r6, -, h⟩ := xbR_ex h
          cases h
          exact F4
        · rcases ite_ex h with ⟨-, h⟩ | ⟨-, h⟩
          · cases h
            exact F4
          · cases h
            exact F4
theorem fr_M_side {p1 : Int} {p2 : Int} {σ : xSt} {r : (Int × xSt)} (h : f_M_side p1 p2 σ = some r) : Fr s_M_side σ r.2 := by
  unfold f_M_side at h
  obtain ⟨σ1, e1, h⟩ := xlet_ex h
  have F1 : Fr s_M_side σ σ1 := Fr.up Fr.rf e1 (rfl)
  obtain ⟨σ2, e2, h⟩ := xbR_ex h
  have F2 : Fr s_M_side σ σ2 := Fr.call F1 (fr_M_lay e2) (rfl)
  obtain ⟨r3, -, h⟩ := xbR_ex h
  rcases ite_ex h with ⟨-, h⟩ | ⟨-, h⟩
  · cases h
    exact F2
  · rcases ite_ex h with ⟨-, h⟩ | ⟨-, h⟩
    · cases h
      exact F2
    · obtain ⟨r4, -, h⟩ := xbR_ex h
      rcases ite_ex h with ⟨-, h⟩ | ⟨-, h⟩
      · obtain ⟨r5, -, h⟩ := xbR_ex h
        cases h
        exact F2
      · cases h
        exact F2
theorem fr_M_share {p1 : Int} {p2 : Int} {σ : xSt} {r : (Int × xSt)} (h : f_M_share p1 p2 σ = some r) : Fr s_M_share σ r.2 := by
  unfold f_M_share at h
  obtain ⟨σ1, e1, h⟩ := xlet_ex h
  have F1 : Fr s_M_share σ σ1 := Fr.up Fr.rf e1 (rfl)
  obtain ⟨σ2, e2, h⟩ := xbR_ex h
  have F2 : Fr s_M_share σ σ2 := Fr.call F1 (fr_M_lay e2) (rfl)
  obtain ⟨r3, -, h⟩ := xbR_ex h
  rcases ite_ex h with ⟨-, h⟩ | ⟨-, h⟩
  · cases h
    exact F2
  · obtain ⟨r4, -, h⟩ := xbR_ex h
    rcases ite_ex h with ⟨-, h⟩ | ⟨-, h⟩
    · cases h
      exact F2
    · obtain ⟨-, h⟩ := gu_ex h
      rcases ite_ex h with ⟨-, h⟩ | ⟨-, h⟩
      · obtain ⟨-, h⟩ := gu_ex h
        cases h
        exact F2
      · cases h
        exact F2
theorem fr_M_lays_27 : ∀ (n : Nat) {l3 : Int} {l4 : Int} {σ : xSt} {r : (Int × xSt)}, f_M_lays_27  n l3 l4 σ = some r → Fr s_M_lays σ r.2 := by
  intro n
  induction n with
  | zero => exact fun h => nomatch h
  | succ n ih =>
    intro l3 l4 σ r h
    unfold f_M_lays_27 at h
    rcases ite_ex h with ⟨-, h⟩ | ⟨-, h⟩
    · obtain ⟨-, h⟩ := gu_ex h
      obtain ⟨σ4, e1, h⟩ := xlet_ex h
      have F1 : Fr s_M_lays σ σ4 := Fr.up Fr.rf e1 (rfl)
      obtain ⟨x5, -, h⟩ := xlet_ex h
      exact Fr.call F1 (ih h) (subL_rf _)
    · obtain ⟨σ6, e2, h⟩ := xlet_ex h
      have F2 : Fr s_M_lays σ σ6 := Fr.up Fr.rf e2 (rfl)
      cases h
      exact F2
theorem fr_M_lays {p1 : Int} {p2 : Int} {σ : xSt} {r : (Int × xSt)} (h : f_M_lays p1 p2 σ = some r) : Fr s_M_lays σ r.2 := by
  unfold f_M_lays at h
  obtain ⟨x1, -, h⟩ := xlet_ex h
  obtain ⟨-, h⟩ := gu_ex h
  obtain ⟨σ2, e1, h⟩ := xlet_ex h
  have F1 : Fr s_M_lays σ σ2 := Fr.up Fr.rf e1 (rfl)
  obtain ⟨-, h⟩ := gu_ex h
  obtain ⟨σ3, e2, h⟩ := xlet_ex h
  have F2 : Fr s_M_lays σ σ3 := Fr.up F1 e2 (rfl)
  exact Fr.call F2 (fr_M_lays_27 _ h) (subL_rf _)
theorem fr_M_readNode_122 {q_M_readNode : (Int → xSt → Option (Int × xSt))} {q_M_readSides : (Int → Int → Int → xSt → Option (Int × xSt))} (hq_M_readNode : ∀ {z0 : Int} {σ : xSt} {r : (Int × xSt)}, q_M_readNode z0 σ = some r → Fr s_M_readNode σ r.2) (hq_M_readSides : ∀ {z0 : Int} {z1 : Int} {z2 : Int} {σ : xSt} {r : (Int × xSt)}, q_M_readSides z0 z1 z2 σ = some r → Fr s_M_readNode σ r.2) {σ : xSt} {r : (Int × xSt)} (h : f_M_readNode_122 q_M_readNode q_M_readSides σ = some r) : Fr s_M_readNode σ r.2 := by
  unfold f_M_readNode_122 at h
  obtain ⟨r17, σ18, e1, h⟩ := xbW_ex h
  have F1 : Fr s_M_readNode σ σ18 := Fr.call Fr.rf (fr_M_bad e1) (rfl)
  cases h
  exact F1
theorem fr_M_readNode_150 {q_M_readNode : (Int → xSt → Option (Int × xSt))} {q_M_readSides : (Int → Int → Int → xSt → Option (Int × xSt))} {l1 : Int} {l3 : Int} {s0 : Int} {s1 : Int} (hq_M_readNode : ∀ {z0 : Int} {σ : xSt} {r : (Int × xSt)}, q_M_readNode z0 σ = some r → Fr s_M_readNode σ r.2) (hq_M_readSides : ∀ {z0 : Int} {z1 : Int} {z2 : Int} {σ : xSt} {r : (Int × xSt)}, q_M_readSides z0 z1 z2 σ = some r → Fr s_M_readNode σ r.2) {σ : xSt} {r : (Int × xSt)} (h : f_M_readNode_150 q_M_readNode q_M_readSides l1 l3 s0 s1 σ = some r) : Fr s_M_readNode σ r.2 := by
  unfold f_M_readNode_150 at h
  obtain ⟨r19, σ20, e1, h⟩ := xbW_ex h
  have F1 : Fr s_M_readNode σ σ20 := Fr.call Fr.rf (fr_M_lays e1) (rfl)
  obtain ⟨σ21, e2, h⟩ := xlet_ex h
  have F2 : Fr s_M_readNode σ σ21 := Fr.up F1 e2 (rfl)
  obtain ⟨σ22, e3, h⟩ := xbR_ex h
  have F3 : Fr s_M_readNode σ σ22 := Fr.call F2 (fr_M_go e3) (rfl)
  rcases ite_ex h with ⟨-, h⟩ | ⟨-, h⟩
  · cases h
    exact F3
  · obtain ⟨r23, -, h⟩ := xbR_ex h
    obtain ⟨r24, σ25, e5, h⟩ := xbW_ex h
    have F5 : Fr s_M_readNode σ σ25 := Fr.call F3 (hq_M_readSides e5) (rfl)
    rcases ite_ex h with ⟨-, h⟩ | ⟨-, h⟩
    · cases h
      exact F5
    · cases h
      exact F5
theorem fr_M_readNode_140 {q_M_readNode : (Int → xSt → Option (Int × xSt))} {q_M_readSides : (Int → Int → Int → xSt → Option (Int × xSt))} {l1 : Int} {l2 : Int} {l3 : Int} {s0 : Int} (hq_M_readNode : ∀ {z0 : Int} {σ : xSt} {r : (Int × xSt)}, q_M_readNode z0 σ = some r → Fr s_M_readNode σ r.2) (hq_M_readSides : ∀ {z0 : Int} {z1 : Int} {z2 : Int} {σ : xSt} {r : (Int × xSt)}, q_M_readSides z0 z1 z2 σ = some r → Fr s_M_readNode σ r.2) {σ : xSt} {r : (Int × xSt)} (h : f_M_readNode_140 q_M_readNode q_M_readSides l1 l2 l3 s0 σ = some r) : Fr s_M_readNode σ r.2 := by
  unfold f_M_readNode_140 at h
  rcases ite_ex h with ⟨-, h⟩ | ⟨-, h⟩
  · exact Fr.call Fr.rf (fr_M_readNode_150 hq_M_readNode hq_M_readSides h) (subL_rf _)
  · exact Fr.call Fr.rf (fr_M_readNode_150 hq_M_readNode hq_M_readSides h) (subL_rf _)
theorem fr_M_readNode_128 {q_M_readNode : (Int → xSt → Option (Int × xSt))} {q_M_readSides : (Int → Int → Int → xSt → Option (Int × xSt))} {l1 : Int} {l2 : Int} {l3 : Int} (hq_M_readNode : ∀ {z0 : Int} {σ : xSt} {r : (Int × xSt)}, q_M_readNode z0 σ = some r → Fr s_M_readNode σ r.2) (hq_M_readSides : ∀ {z0 : Int} {z1 : Int} {z2 : Int} {σ : xSt} {r : (Int × xSt)}, q_M_readSides z0 z1 z2 σ = some r → Fr s_M_readNode σ r.2) {σ : xSt} {r : (Int × xSt)} (h : f_M_readNode_128 q_M_readNode q_M_readSides l1 l2 l3 σ = some r) : Fr s_M_readNode σ r.2 := by
  unfold f_M_readNode_128 at h
  rcases ite_ex h with ⟨-, h⟩ | ⟨-, h⟩
  · exact Fr.call Fr.rf (fr_M_readNode_140 hq_M_readNode hq_M_readSides h) (subL_rf _)
  · exact Fr.call Fr.rf (fr_M_readNode_140 hq_M_readNode hq_M_readSides h) (subL_rf _)
theorem fr_M_readNode_102 {q_M_readNode : (Int → xSt → Option (Int × xSt))} {q_M_readSides : (Int → Int → Int → xSt → Option (Int × xSt))} {l1 : Int} {l2 : Int} {l3 : Int} (hq_M_readNode : ∀ {z0 : Int} {σ : xSt} {r : (Int × xSt)}, q_M_readNode z0 σ = some r → Fr s_M_readNode σ r.2) (hq_M_readSides : ∀ {z0 : Int} {z1 : Int} {z2 : Int} {σ : xSt} {r : (Int × xSt)}, q_M_readSides z0 z1 z2 σ = some r → Fr s_M_readNode σ r.2) {σ : xSt} {r : (Int × xSt)} (h : f_M_readNode_102 q_M_readNode q_M_readSides l1 l2 l3 σ = some r) : Fr s_M_readNode σ r.2 := by
  unfold f_M_readNode_102 at h
  rcases ite_ex h with ⟨-, h⟩ | ⟨-, h⟩
  · exact Fr.call Fr.rf (fr_M_readNode_122 hq_M_readNode hq_M_readSides h) (subL_rf _)
  · rcases ite_ex h with ⟨-, h⟩ | ⟨-, h⟩
    · exact Fr.call Fr.rf (fr_M_readNode_128 hq_M_readNode hq_M_readSides h) (subL_rf _)
    · rcases ite_ex h with ⟨-, h⟩ | ⟨-, h⟩
      · exact Fr.call Fr.rf (fr_M_readNode_122 hq_M_readNode hq_M_readSides h) (subL_rf _)
      · exact Fr.call Fr.rf (fr_M_readNode_128 hq_M_readNode hq_M_readSides h) (subL_rf _)
theorem fr0_M_readNode {q_M_readNode : (Int → xSt → Option (Int × xSt))} {q_M_readSides : (Int → Int → Int → xSt → Option (Int × xSt))} {p1 : Int} (hq_M_readNode : ∀ {z0 : Int} {σ : xSt} {r : (Int × xSt)}, q_M_readNode z0 σ = some r → Fr s_M_readNode σ r.2) (hq_M_readSides : ∀ {z0 : Int} {z1 : Int} {z2 : Int} {σ : xSt} {r : (Int × xSt)}, q_M_readSides z0 z1 z2 σ = some r → Fr s_M_readNode σ r.2) {σ : xSt} {r : (Int × xSt)} (h : f0_M_readNode q_M_readNode q_M_readSides p1 σ = some r) : Fr s_M_readNode σ r.2 := by
  unfold f0_M_readNode at h
  obtain ⟨r1, -, h⟩ := xbR_ex h
  rcases ite_ex h with ⟨-, h⟩ | ⟨-, h⟩
  · obtain ⟨r2, -, h⟩ := xbR_ex h
    rcases ite_ex h with ⟨-, h⟩ | ⟨-, h⟩
    · obtain ⟨r3, σ4, e3, h⟩ := xbW_ex h
      have F3 : Fr s_M_readNode σ σ4 := Fr.call Fr.rf (fr_M_bad e3) (rfl)
      cases h
      exact F3
    · obtain ⟨r5, -, h⟩ := xbR_ex h
      obtain ⟨r6, -, h⟩ := xbR_ex h
      obtain ⟨r7, -, h⟩ := xbR_ex h
      obtain ⟨r8, -, h⟩ := xbR_ex h
      rcases ite_ex h with ⟨-, h⟩ | ⟨-, h⟩
      · rcases ite_ex h with ⟨-, h⟩ | ⟨-, h⟩
        · obtain ⟨r9, σ10, e8, h⟩ := xbW_ex h
          have F8 : Fr s_M_readNode σ σ10 := Fr.call Fr.rf (fr_M_bad e8) (rfl)
          cases h
          exact F8
        · exact Fr.call Fr.rf (fr_M_readNode_102 hq_M_readNode hq_M_readSides h) (subL_rf _)
      · exact Fr.call Fr.rf (fr_M_readNode_102 hq_M_readNode hq_M_readSides h) (subL_rf _)
  · rcases ite_ex h with ⟨-, h⟩ | ⟨-, h⟩
    · obtain ⟨r11, σ12, e9, h⟩ := xbW_ex h
      have F9 : Fr s_M_readNode σ σ12 := Fr.call Fr.rf (fr_M_bad e9) (rfl)
      cases h
      exact F9
    · obtain ⟨r13, σ14, e10, h⟩ := xbW_ex h
      have F10 : Fr s_M_readNode σ σ14 := Fr.call Fr.rf (fr_M_lays e10) (rfl)
      obtain ⟨σ15, e11, h⟩ := xlet_ex h
      have F11 : Fr s_M_readNode σ σ15 := Fr.up F10 e11 (rfl)
      obtain ⟨σ16, e12, h⟩ := xbR_ex h
      have F12 : Fr s_M_readNode σ σ16 := Fr.call F11 (fr_M_go e12) (rfl)
      cases h
      exact F12
theorem fr_M_readSides_87 {q_M_readNode : (Int → xSt → Option (Int × xSt))} {q_M_readSides : (Int → Int → Int → xSt → Option (Int × xSt))} {k14 : (Int → Int → Int → Int → xSt → Option (Int × xSt))} {l1 : Int} {l2 : Int} {l3 : Int} {l4 : Int} {l5 : Int} (hq_M_readNode : ∀ {z0 : Int} {σ : xSt} {r : (Int × xSt)}, q_M_readNode z0 σ = some r → Fr s_M_readNode σ r.2) (hq_M_readSides : ∀ {z0 : Int} {z1 : Int} {z2 : Int} {σ : xSt} {r : (Int × xSt)}, q_M_readSides z0 z1 z2 σ = some r → Fr s_M_readNode σ r.2) (hk14 : ∀ {z0 : Int} {z1 : Int} {z2 : Int} {z3 : Int} {σ : xSt} {r : (Int × xSt)}, k14 z0 z1 z2 z3 σ = some r → Fr s_M_readNode σ r.2) {σ : xSt} {r : (Int × xSt)} (h : f_M_readSides_87 q_M_readNode q_M_readSides k14 l1 l2 l3 l4 l5 σ = some r) : Fr s_M_readNode σ r.2 := by
  unfold f_M_readSides_87 at h
  obtain ⟨r11, -, h⟩ := xbR_ex h
  rcases ite_ex h with ⟨-, h⟩ | ⟨-, h⟩
  · obtain ⟨r12, σ13, e2, h⟩ := xbW_ex h
    have F2 : Fr s_M_readNode σ σ13 := Fr.call Fr.rf (fr_M_bad e2) (rfl)
    cases h
    exact F2
  · obtain ⟨σ14, e3, h⟩ := xbR_ex h
    have F3 : Fr s_M_readNode σ σ14 := Fr.call Fr.rf (fr_M_go e3) (rfl)
    obtain ⟨x15, -, h⟩ := xlet_ex h
    exact Fr.call F3 (hk14 h) (rfl)
theorem fr_M_readSides_61 {q_M_readNode : (Int → xSt → Option (Int × xSt))} {q_M_readSides : (Int → Int → Int → xSt → Option (Int × xSt))} {k14 : (Int → Int → Int → Int → xSt → Option (Int × xSt))} {l1 : Int} {l2 : Int} {l3 : Int} {l4 : Int} {s0 : Int} (hq_M_readNode : ∀ {z0 : Int} {σ : xSt} {r : (Int × xSt)}, q_M_readNode z0 σ = some r → Fr s_M_readNode σ r.2) (hq_M_readSides : ∀ {z0 : Int} {z1 : Int} {z2 : Int} {σ : xSt} {r : (Int × xSt)}, q_M_readSides z0 z1 z2 σ = some r → Fr s_M_readNode σ r.2) (hk14 : ∀ {z0 : Int} {z1 : Int} {z2 : Int} {z3 : Int} {σ : xSt} {r : (Int × xSt)}, k14 z0 z1 z2 z3 σ = some r → Fr s_M_readNode σ r.2) {σ : xSt} {r : (Int × xSt)} (h : f_M_readSides_61 q_M_readNode q_M_readSides k14 l1 l2 l3 l4 s0 σ = some r) : Fr s_M_readNode σ r.2 := by
  unfold f_M_readSides_61 at h
  obtain ⟨r7, -, h⟩ := xbR_ex h
  rcases ite_ex h with ⟨-, h⟩ | ⟨-, h⟩
  · obtain ⟨r8, -, h⟩ := xbR_ex h
    rcases ite_ex h with ⟨-, h⟩ | ⟨-, h⟩
    · obtain ⟨r9, σ10, e3, h⟩ := xbW_ex h
      have F3 : Fr s_M_readNode σ σ10 := Fr.call Fr.rf (fr_M_bad e3) (rfl)
      cases h
      exact F3
    · exact Fr.call Fr.rf (fr_M_readSides_87 hq_M_readNode hq_M_readSides hk14 h) (subL_rf _)
  · exact Fr.call Fr.rf (fr_M_readSides_87 hq_M_readNode hq_M_readSides hk14 h) (subL_rf _)
theorem fr_M_readSides_14 {q_M_readNode : (Int → xSt → Option (Int × xSt))} {q_M_readSides : (Int → Int → Int → xSt → Option (Int × xSt))} (hq_M_readNode : ∀ {z0 : Int} {σ : xSt} {r : (Int × xSt)}, q_M_readNode z0 σ = some r → Fr s_M_readNode σ r.2) (hq_M_readSides : ∀ {z0 : Int} {z1 : Int} {z2 : Int} {σ : xSt} {r : (Int × xSt)}, q_M_readSides z0 z1 z2 σ = some r → Fr s_M_readNode σ r.2) : ∀ (n : Nat) {l1 : Int} {l2 : Int} {l3 : Int} {l4 : Int} {σ : xSt} {r : (Int × xSt)}, f_M_readSides_14 q_M_readNode q_M_readSides n l1 l2 l3 l4 σ = some r → Fr s_M_readNode σ r.2 := by
  intro n
  induction n with
  | zero => exact fun h => nomatch h
  | succ n ih =>
    intro l1 l2 l3 l4 σ r h
    unfold f_M_readSides_14 at h
    rcases ite_ex h with ⟨-, h⟩ | ⟨-, h⟩
    · obtain ⟨r3, σ4, e1, h⟩ := xbW_ex h
      have F1 : Fr s_M_readNode σ σ4 := Fr.call Fr.rf (hq_M_readNode e1) (rfl)
      rcases ite_ex h with ⟨-, h⟩ | ⟨-, h⟩
      · cases h
        exact F1
      · obtain ⟨-, h⟩ := gu_ex h
        obtain ⟨σ5, e2, h⟩ := xlet_ex h
        have F2 : Fr s_M_readNode σ σ5 := Fr.up F1 e2 (rfl)
        rcases ite_ex h with ⟨-, h⟩ | ⟨-, h⟩
        · exact Fr.call F2 (fr_M_readSides_61 hq_M_readNode hq_M_readSides (fun h => ih h) h) (subL_rf _)
        · exact Fr.call F2 (fr_M_readSides_61 hq_M_readNode hq_M_readSides (fun h => ih h) h) (subL_rf _)
    · obtain ⟨σ6, e3, h⟩ := xlet_ex h
      have F3 : Fr s_M_readNode σ σ6 := Fr.up Fr.rf e3 (rfl)
      cases h
      exact F3
theorem fr0_M_readSides {q_M_readNode : (Int → xSt → Option (Int × xSt))} {q_M_readSides : (Int → Int → Int → xSt → Option (Int × xSt))} {p1 : Int} {p2 : Int} {p3 : Int} (hq_M_readNode : ∀ {z0 : Int} {σ : xSt} {r : (Int × xSt)}, q_M_readNode z0 σ = some r → Fr s_M_readNode σ r.2) (hq_M_readSides : ∀ {z0 : Int} {z1 : Int} {z2 : Int} {σ : xSt} {r : (Int × xSt)}, q_M_readSides z0 z1 z2 σ = some r → Fr s_M_readNode σ r.2) {σ : xSt} {r : (Int × xSt)} (h : f0_M_readSides q_M_readNode q_M_readSides p1 p2 p3 σ = some r) : Fr s_M_readNode σ r.2 := by
  unfold f0_M_readSides at h
  obtain ⟨r1, σ2, e1, h⟩ := xbW_ex h
  have F1 : Fr s_M_readNode σ σ2 := Fr.call Fr.rf (fr_M_readSign e1) (rfl)
  rcases ite_ex h with ⟨-, h⟩ | ⟨-, h⟩
  · cases h
    exact F1
  · exact Fr.call F1 (fr_M_readSides_14 hq_M_readNode hq_M_readSides _ h) (subL_rf _)
theorem frg_M_readNode : ∀ n, (∀ {p1 : Int} {σ : xSt} {r : (Int × xSt)}, f_M_readNode n p1 σ = some r → Fr s_M_readNode σ r.2) ∧ (∀ {p1 : Int} {p2 : Int} {p3 : Int} {σ : xSt} {r : (Int × xSt)}, f_M_readSides n p1 p2 p3 σ = some r → Fr s_M_readNode σ r.2) := by
  intro n
  induction n with
  | zero => exact ⟨(fun h => nomatch h), (fun h => nomatch h)⟩
  | succ n ih =>
    obtain ⟨i0, i1⟩ := ih
    exact ⟨(fun h => fr0_M_readNode (q_M_readNode := ((g_M_readNode n).1)) (q_M_readSides := ((g_M_readNode n).2)) (fun h => i0 h) (fun h => i1 h) h), (fun h => fr0_M_readSides (q_M_readNode := ((g_M_readNode n).1)) (q_M_readSides := ((g_M_readNode n).2)) (fun h => i0 h) (fun h => i1 h) h)⟩
theorem fr_M_readNode {n : Nat} {p1 : Int} {σ : xSt} {r : (Int × xSt)} (h : f_M_readNode n p1 σ = some r) : Fr s_M_readNode σ r.2 := (frg_M_readNode _).1 h
theorem fr_M_readSides {n : Nat} {p1 : Int} {p2 : Int} {p3 : Int} {σ : xSt} {r : (Int × xSt)} (h : f_M_readSides n p1 p2 p3 σ = some r) : Fr s_M_readNode σ r.2 := (frg_M_readNode _).2 h
theorem fr_M_way_49 : ∀ (n : Nat) {l1 : Int} {σ : xSt} {r : (Int × xSt)}, f_M_way_49  n l1 σ = some r → Fr s_M_way σ r.2 := by
  intro n
  induction n with
  | zero => exact fun h => nomatch h
  | succ n ih =>
    intro l1 σ r h
    unfold f_M_way_49 at h
    rcases ite_ex h with ⟨-, h⟩ | ⟨-, h⟩
    · obtain ⟨-, h⟩ := gu_ex h
      obtain ⟨-, h⟩ := gu_ex h
      obtain ⟨σ7, e1, h⟩ := xlet_ex h
      have F1 : Fr s_M_way σ σ7 := Fr.up Fr.rf e1 (rfl)
      obtain ⟨x8, -, h⟩ := xlet_ex h
      exact Fr.call F1 (ih h) (subL_rf _)
    · obtain ⟨σ9, e2, h⟩ := xlet_ex h
      have F2 : Fr s_M_way σ σ9 := Fr.up Fr.rf e2 (rfl)
      cases h
      exact F2
theorem fr_M_way {σ : xSt} {r : (Int × xSt)} (h : f_M_way σ = some r) : Fr s_M_way σ r.2 := by
  unfold f_M_way at h
  obtain ⟨σ1, e1, h⟩ := xbR_ex h
  have F1 : Fr s_M_way σ σ1 := Fr.call Fr.rf (fr_M_begin e1) (rfl)
  obtain ⟨σ2, e2, h⟩ := xlet_ex h
  have F2 : Fr s_M_way σ σ2 := Fr.up F1 e2 (rfl)
  obtain ⟨r3, σ4, e3, h⟩ := xbW_ex h
  have F3 : Fr s_M_way σ σ4 := Fr.call F2 (fr_M_readNode e3) (rfl)
  rcases ite_ex h with ⟨-, h⟩ | ⟨-, h⟩
  · cases h
    exact F3
  · rcases ite_ex h with ⟨-, h⟩ | ⟨-, h⟩
    · exact Fr.call F3 (fr_M_way_49 _ h) (subL_rf _)
    · obtain ⟨r5, σ6, e4, h⟩ := xbW_ex h
      have F4 : Fr s_M_way σ σ6 := Fr.call F3 (fr_M_bad e4) (rfl)
      cases h
      exact F4
theorem fr_M_node {p1 : Int} {σ : xSt} {r : (Int × xSt)} (h : f_M_node p1 σ = some r) : Fr s_M_node σ r.2 := by
  unfold f_M_node at h
  obtain ⟨σ1, e1, h⟩ := xlet_ex h
  have F1 : Fr s_M_node σ σ1 := Fr.up Fr.rf e1 (rfl)
  obtain ⟨r2, -, h⟩ := xbR_ex h
  rcases ite_ex h with ⟨-, h⟩ | ⟨-, h⟩
  · cases h
    exact F1
  · obtain ⟨r3, -, h⟩ := xbR_ex h
    cases h
    exact F1
theorem fr_M_nodeOf {p1 : Int} {σ : xSt} {r : (Int × xSt)} (h : f_M_nodeOf p1 σ = some r) : Fr s_M_nodeOf σ r.2 := by
  unfold f_M_nodeOf at h
  obtain ⟨σ1, e1, h⟩ := xlet_ex h
  have F1 : Fr s_M_nodeOf σ σ1 := Fr.up Fr.rf e1 (rfl)
  obtain ⟨r2, -, h⟩ := xbR_ex h
  rcases ite_ex h with ⟨-, h⟩ | ⟨-, h⟩
  · cases h
    exact F1
  · obtain ⟨r3, -, h⟩ := xbR_ex h
    cases h
    exact F1
theorem fr_M_next {p1 : Int} {p2 : Int} {σ : xSt} {r : (Int × xSt)} (h : f_M_next p1 p2 σ = some r) : Fr s_M_next σ r.2 := by
  unfold f_M_next at h
  obtain ⟨σ1, e1, h⟩ := xlet_ex h
  have F1 : Fr s_M_next σ σ1 := Fr.up Fr.rf e1 (rfl)
  obtain ⟨r2, -, h⟩ := xbR_ex h
  rcases ite_ex h with ⟨-, h⟩ | ⟨-, h⟩
  · cases h
    exact F1
  · obtain ⟨r3, -, h⟩ := xbR_ex h
    rcases ite_ex h with ⟨-, h⟩ | ⟨-, h⟩
    · rcases ite_ex h with ⟨-, h⟩ | ⟨-, h⟩
      · cases h
        exact F1
      · obtain ⟨r4, -, h⟩ := xbR_ex h
        obtain ⟨r5, -, h⟩ := xbR_ex h
        rcases ite_ex h with ⟨-, h⟩ | ⟨-, h⟩
        · obtain ⟨r6, -, h⟩ := xbR_ex h
          cases h
          exact F1
        · cases h
          exact F1
    · cases h
      exact F1
theorem fr_M_deep {σ : xSt} {r : (Int × xSt)} (h : f_M_deep σ = some r) : Fr s_M_deep σ r.2 := by
  unfold f_M_deep at h
  obtain ⟨σ1, e1, h⟩ := xlet_ex h
  have F1 : Fr s_M_deep σ σ1 := Fr.up Fr.rf e1 (rfl)
  obtain ⟨r2, -, h⟩ := xbR_ex h
  rcases ite_ex h with ⟨-, h⟩ | ⟨-, h⟩
  · cases h
    exact F1
  · obtain ⟨r3, -, h⟩ := xbR_ex h
    cases h
    exact F1
theorem fr_M_weigh_32 {q_M_weigh : (Int → Int → Int → xSt → Option (xSt))} {l2 : Int} {l4 : Int} {s0 : Int} (hq_M_weigh : ∀ {z0 : Int} {z1 : Int} {z2 : Int} {σ : xSt} {r : (xSt)}, q_M_weigh z0 z1 z2 σ = some r → Fr s_M_weigh σ r) {σ : xSt} {r : (xSt)} (h : f_M_weigh_32 q_M_weigh l2 l4 s0 σ = some r) : Fr s_M_weigh σ r := by
  unfold f_M_weigh_32 at h
  obtain ⟨-, h⟩ := gu_ex h
  obtain ⟨-, h⟩ := gu_ex h
  obtain ⟨σ4, e1, h⟩ := xlet_ex h
  have F1 : Fr s_M_weigh σ σ4 := Fr.up Fr.rf e1 (rfl)
  obtain ⟨σ5, e2, h⟩ := xlet_ex h
  have F2 : Fr s_M_weigh σ σ5 := Fr.up F1 e2 (rfl)
  cases h
  exact F2
theorem fr_M_weigh_62 {q_M_weigh : (Int → Int → Int → xSt → Option (xSt))} (hq_M_weigh : ∀ {z0 : Int} {z1 : Int} {z2 : Int} {σ : xSt} {r : (xSt)}, q_M_weigh z0 z1 z2 σ = some r → Fr s_M_weigh σ r) : ∀ (n : Nat) {l1 : Int} {l2 : Int} {l4 : Int} {l6 : Int} {l7 : Int} {σ : xSt} {r : (xSt)}, f_M_weigh_62 q_M_weigh n l1 l2 l4 l6 l7 σ = some r → Fr s_M_weigh σ r := by
  intro n
  induction n with
  | zero => exact fun h => nomatch h
  | succ n ih =>
    intro l1 l2 l4 l6 l7 σ r h
    unfold f_M_weigh_62 at h
    obtain ⟨r6, -, h⟩ := xbR_ex h
    rcases ite_ex h with ⟨-, h⟩ | ⟨-, h⟩
    · obtain ⟨r7, -, h⟩ := xbR_ex h
      rcases ite_ex h with ⟨-, h⟩ | ⟨-, h⟩
      · obtain ⟨r8, -, h⟩ := xbR_ex h
        obtain ⟨r9, -, h⟩ := xbR_ex h
        obtain ⟨-, h⟩ := gd_ex h
        obtain ⟨r10, -, h⟩ := xbR_ex h
        obtain ⟨σ11, e6, h⟩ := xbR_ex h
        have F6 : Fr s_M_weigh σ σ11 := Fr.call Fr.rf (hq_M_weigh e6) (rfl)
        obtain ⟨x12, -, h⟩ := xlet_ex h
        exact Fr.call F6 (ih h) (subL_rf _)
      · obtain ⟨x13, -, h⟩ := xlet_ex h
        exact Fr.call Fr.rf (ih h) (subL_rf _)
    · cases h
      exact Fr.rf
theorem fr0_M_weigh {q_M_weigh : (Int → Int → Int → xSt → Option (xSt))} {p1 : Int} {p2 : Int} {p3 : Int} (hq_M_weigh : ∀ {z0 : Int} {z1 : Int} {z2 : Int} {σ : xSt} {r : (xSt)}, q_M_weigh z0 z1 z2 σ = some r → Fr s_M_weigh σ r) {σ : xSt} {r : (xSt)} (h : f0_M_weigh q_M_weigh p1 p2 p3 σ = some r) : Fr s_M_weigh σ r := by
  unfold f0_M_weigh at h
  obtain ⟨r1, -, h⟩ := xbR_ex h
  rcases ite_ex h with ⟨-, h⟩ | ⟨-, h⟩
  · rcases ite_ex h with ⟨-, h⟩ | ⟨-, h⟩
    · obtain ⟨r2, -, h⟩ := xbR_ex h
      exact Fr.call Fr.rf (fr_M_weigh_32 hq_M_weigh h) (subL_rf _)
    · exact Fr.call Fr.rf (fr_M_weigh_32 hq_M_weigh h) (subL_rf _)
  · obtain ⟨r3, -, h⟩ := xbR_ex h
    exact Fr.call Fr.rf (fr_M_weigh_62 hq_M_weigh _ h) (subL_rf _)
theorem frg_M_weigh : ∀ n, (∀ {p1 : Int} {p2 : Int} {p3 : Int} {σ : xSt} {r : (xSt)}, f_M_weigh n p1 p2 p3 σ = some r → Fr s_M_weigh σ r) := by
  intro n
  induction n with
  | zero => exact (fun h => nomatch h)
  | succ n ih => exact fun h => fr0_M_weigh (q_M_weigh := (g_M_weigh n)) (fun h => ih h) h
theorem fr_M_weigh {n : Nat} {p1 : Int} {p2 : Int} {p3 : Int} {σ : xSt} {r : (xSt)} (h : f_M_weigh n p1 p2 p3 σ = some r) : Fr s_M_weigh σ r := (frg_M_weigh _) h
theorem fr_M_layWeights_32 {k21 : (Int → xSt → Option (Int × xSt))} (hk21 : ∀ {z0 : Int} {σ : xSt} {r : (Int × xSt)}, k21 z0 σ = some r → Fr s_M_layWeights σ r.2) : ∀ (n : Nat) {l3 : Int} {l4 : Int} {σ : xSt} {r : (Int × xSt)}, f_M_layWeights_32 k21 n l3 l4 σ = some r → Fr s_M_layWeights σ r.2 := by
  intro n
  induction n with
  | zero => exact fun h => nomatch h
  | succ n ih =>
    intro l3 l4 σ r h
    unfold f_M_layWeights_32 at h
    rcases ite_ex h with ⟨-, h⟩ | ⟨-, h⟩
    · obtain ⟨r6, -, h⟩ := xbR_ex h
      rcases ite_ex h with ⟨-, h⟩ | ⟨-, h⟩
      · obtain ⟨x7, -, h⟩ := xlet_ex h
        exact Fr.call Fr.rf (hk21 h) (rfl)
      · obtain ⟨r8, -, h⟩ := xbR_ex h
        obtain ⟨σ9, e3, h⟩ := xlet_ex h
        have F3 : Fr s_M_layWeights σ σ9 := Fr.up Fr.rf e3 (rfl)
        obtain ⟨x10, -, h⟩ := xlet_ex h
        exact Fr.call F3 (ih h) (subL_rf _)
    · obtain ⟨x11, -, h⟩ := xlet_ex h
      exact Fr.call Fr.rf (hk21 h) (rfl)
theorem fr_M_layWeights_82 : ∀ (n : Nat) {l3 : Int} {σ : xSt} {r : (Int × xSt)}, f_M_layWeights_82  n l3 σ = some r → Fr s_M_layWeights σ r.2 := by
  intro n
  induction n with
  | zero => exact fun h => nomatch h
  | succ n ih =>
    intro l3 σ r h
    unfold f_M_layWeights_82 at h
    rcases ite_ex h with ⟨-, h⟩ | ⟨-, h⟩
    · obtain ⟨σ12, e1, h⟩ := xbR_ex h
      have F1 : Fr s_M_layWeights σ σ12 := Fr.call Fr.rf (fr_M_weigh e1) (rfl)
      rcases ite_ex h with ⟨-, h⟩ | ⟨-, h⟩
      · cases h
        exact F1
      · cases h
        exact F1
    · obtain ⟨-, h⟩ := gu_ex h
      obtain ⟨σ13, e2, h⟩ := xlet_ex h
      have F2 : Fr s_M_layWeights σ σ13 := Fr.up Fr.rf e2 (rfl)
      obtain ⟨x14, -, h⟩ := xlet_ex h
      exact Fr.call F2 (ih h) (subL_rf _)
theorem fr_M_layWeights_21 : ∀ (n : Nat) {l3 : Int} {σ : xSt} {r : (Int × xSt)}, f_M_layWeights_21  n l3 σ = some r → Fr s_M_layWeights σ r.2 := by
  intro n
  induction n with
  | zero => exact fun h => nomatch h
  | succ n ih =>
    intro l3 σ r h
    unfold f_M_layWeights_21 at h
    obtain ⟨r4, -, h⟩ := xbR_ex h
    rcases ite_ex h with ⟨-, h⟩ | ⟨-, h⟩
    · exact Fr.call Fr.rf (fr_M_layWeights_32 (fun h => ih h) _ h) (subL_rf _)
    · obtain ⟨σ5, e2, h⟩ := xlet_ex h
      have F2 : Fr s_M_layWeights σ σ5 := Fr.up Fr.rf e2 (rfl)
      exact Fr.call F2 (fr_M_layWeights_82 _ h) (subL_rf _)
theorem fr_M_layWeights {p1 : Int} {p2 : Int} {σ : xSt} {r : (Int × xSt)} (h : f_M_layWeights p1 p2 σ = some r) : Fr s_M_layWeights σ r.2 := by
  unfold f_M_layWeights at h
  obtain ⟨σ1, e1, h⟩ := xlet_ex h
  have F1 : Fr s_M_layWeights σ σ1 := Fr.up Fr.rf e1 (rfl)
  obtain ⟨σ2, e2, h⟩ := xlet_ex h
  have F2 : Fr s_M_layWeights σ σ2 := Fr.up F1 e2 (rfl)
  obtain ⟨σ3, e3, h⟩ := xlet_ex h
  have F3 : Fr s_M_layWeights σ σ3 := Fr.up F2 e3 (rfl)
  exact Fr.call F3 (fr_M_layWeights_21 _ h) (subL_rf _)
theorem fr_M_chance_44 {σ : xSt} {r : (Int × xSt)} (h : f_M_chance_44 σ = some r) : Fr s_M_chance σ r.2 := by
  unfold f_M_chance_44 at h
  obtain ⟨r10, σ11, e1, h⟩ := xbW_ex h
  have F1 : Fr s_M_chance σ σ11 := Fr.call Fr.rf (fr_M_refuseLong e1) (rfl)
  cases h
  exact F1
theorem fr_M_chance {p1 : Int} {p2 : Int} {σ : xSt} {r : (Int × xSt)} (h : f_M_chance p1 p2 σ = some r) : Fr s_M_chance σ r.2 := by
  unfold f_M_chance at h
  obtain ⟨σ1, e1, h⟩ := xbR_ex h
  have F1 : Fr s_M_chance σ σ1 := Fr.call Fr.rf (fr_M_lay e1) (rfl)
  obtain ⟨r2, -, h⟩ := xbR_ex h
  rcases ite_ex h with ⟨-, h⟩ | ⟨-, h⟩
  · exact Fr.call F1 (fr_M_chance_44 h) (subL_rf _)
  · obtain ⟨r3, -, h⟩ := xbR_ex h
    rcases ite_ex h with ⟨-, h⟩ | ⟨-, h⟩
    · exact Fr.call F1 (fr_M_chance_44 h) (subL_rf _)
    · obtain ⟨r4, -, h⟩ := xbR_ex h
      rcases ite_ex h with ⟨-, h⟩ | ⟨-, h⟩
      · exact Fr.call F1 (fr_M_chance_44 h) (subL_rf _)
      · obtain ⟨r5, -, h⟩ := xbR_ex h
        rcases ite_ex h with ⟨-, h⟩ | ⟨-, h⟩
        · obtain ⟨r6, σ7, e6, h⟩ := xbW_ex h
          have F6 : Fr s_M_chance σ σ7 := Fr.call F1 (fr_M_layWeights e6) (rfl)
          rcases ite_ex h with ⟨-, h⟩ | ⟨-, h⟩
          · exact Fr.call F6 (fr_M_chance_44 h) (subL_rf _)
          · obtain ⟨σ8, e7, h⟩ := xlet_ex h
            have F7 : Fr s_M_chance σ σ8 := Fr.up F6 e7 (rfl)
            obtain ⟨-, h⟩ := gu_ex h
            obtain ⟨r9, -, h⟩ := xbR_ex h
            cases h
            exact F7
        · exact Fr.call F1 (fr_M_chance_44 h) (subL_rf _)
theorem fr_M_chanceAt_46 {σ : xSt} {r : (Int × xSt)} (h : f_M_chanceAt_46 σ = some r) : Fr s_M_chanceAt σ r.2 := by
  unfold f_M_chanceAt_46 at h
  obtain ⟨r10, σ11, e1, h⟩ := xbW_ex h
  have F1 : Fr s_M_chanceAt σ σ11 := Fr.call Fr.rf (fr_M_refuseLong e1) (rfl)
  cases h
  exact F1
theorem fr_M_chanceAt {p1 : Int} {p2 : Int} {p3 : Int} {p4 : Int} {σ : xSt} {r : (Int × xSt)} (h : f_M_chanceAt p1 p2 p3 p4 σ = some r) : Fr s_M_chanceAt σ r.2 := by
  unfold f_M_chanceAt at h
  obtain ⟨σ1, e1, h⟩ := xbR_ex h
  have F1 : Fr s_M_chanceAt σ σ1 := Fr.call Fr.rf (fr_M_lay e1) (rfl)
  obtain ⟨r2, -, h⟩ := xbR_ex h
  rcases ite_ex h with ⟨-, h⟩ | ⟨-, h⟩
  · exact Fr.call F1 (fr_M_chanceAt_46 h) (subL_rf _)
  · obtain ⟨r3, -, h⟩ := xbR_ex h
    rcases ite_ex h with ⟨-, h⟩ | ⟨-, h⟩
    · exact Fr.call F1 (fr_M_chanceAt_46 h) (subL_rf _)
    · obtain ⟨r4, -, h⟩ := xbR_ex h
      rcases ite_ex h with ⟨-, h⟩ | ⟨-, h⟩
      · exact Fr.call F1 (fr_M_chanceAt_46 h) (subL_rf _)
      · obtain ⟨r5, -, h⟩ := xbR_ex h
        rcases ite_ex h with ⟨-, h⟩ | ⟨-, h⟩
        · exact Fr.call F1 (fr_M_chanceAt_46 h) (subL_rf _)
        · obtain ⟨r6, σ7, e6, h⟩ := xbW_ex h
          have F6 : Fr s_M_chanceAt σ σ7 := Fr.call F1 (fr_M_layWeights e6) (rfl)
          rcases ite_ex h with ⟨-, h⟩ | ⟨-, h⟩
          · exact Fr.call F6 (fr_M_chanceAt_46 h) (subL_rf _)
          · obtain ⟨σ8, e7, h⟩ := xlet_ex h
            have F7 : Fr s_M_chanceAt σ σ8 := Fr.up F6 e7 (rfl)
            obtain ⟨-, h⟩ := gu_ex h
            obtain ⟨r9, -, h⟩ := xbR_ex h
            cases h
            exact F7
theorem fr_M_mean_37 {σ : xSt} {r : (Int × xSt)} (h : f_M_mean_37 σ = some r) : Fr s_M_mean σ r.2 := by
  unfold f_M_mean_37 at h
  obtain ⟨r9, σ10, e1, h⟩ := xbW_ex h
  have F1 : Fr s_M_mean σ σ10 := Fr.call Fr.rf (fr_M_refuseLong e1) (rfl)
  cases h
  exact F1
theorem fr_M_mean {p1 : Int} {p2 : Int} {p3 : Int} {σ : xSt} {r : (Int × xSt)} (h : f_M_mean p1 p2 p3 σ = some r) : Fr s_M_mean σ r.2 := by
  unfold f_M_mean at h
  obtain ⟨σ1, e1, h⟩ := xbR_ex h
  have F1 : Fr s_M_mean σ σ1 := Fr.call Fr.rf (fr_M_lay e1) (rfl)
  obtain ⟨r2, -, h⟩ := xbR_ex h
  rcases ite_ex h with ⟨-, h⟩ | ⟨-, h⟩
  · exact Fr.call F1 (fr_M_mean_37 h) (subL_rf _)
  · obtain ⟨r3, -, h⟩ := xbR_ex h
    rcases ite_ex h with ⟨-, h⟩ | ⟨-, h⟩
    · exact Fr.call F1 (fr_M_mean_37 h) (subL_rf _)
    · obtain ⟨r4, -, h⟩ := xbR_ex h
      rcases ite_ex h with ⟨-, h⟩ | ⟨-, h⟩
      · exact Fr.call F1 (fr_M_mean_37 h) (subL_rf _)
      · obtain ⟨r5, σ6, e5, h⟩ := xbW_ex h
        have F5 : Fr s_M_mean σ σ6 := Fr.call F1 (fr_M_layWeights e5) (rfl)
        rcases ite_ex h with ⟨-, h⟩ | ⟨-, h⟩
        · exact Fr.call F5 (fr_M_mean_37 h) (subL_rf _)
        · obtain ⟨σ7, e6, h⟩ := xlet_ex h
          have F6 : Fr s_M_mean σ σ7 := Fr.up F5 e6 (rfl)
          obtain ⟨r8, -, h⟩ := xbR_ex h
          cases h
          exact F6
theorem fr_M_raise_70 {q_M_raise : (Int → Int → Int → Int → xSt → Option (xSt))} {k36 : (Int → Int → Int → Int → Int → xSt → Option (xSt))} {l2 : Int} {l4 : Int} {l5 : Int} {l7 : Int} {l8 : Int} {s0 : Int} {s1 : Int} {s2 : Int} (hq_M_raise : ∀ {z0 : Int} {z1 : Int} {z2 : Int} {z3 : Int} {σ : xSt} {r : (xSt)}, q_M_raise z0 z1 z2 z3 σ = some r → Fr s_M_raise σ r) (hk36 : ∀ {z0 : Int} {z1 : Int} {z2 : Int} {z3 : Int} {z4 : Int} {σ : xSt} {r : (xSt)}, k36 z0 z1 z2 z3 z4 σ = some r → Fr s_M_raise σ r) {σ : xSt} {r : (xSt)} (h : f_M_raise_70 q_M_raise k36 l2 l4 l5 l7 l8 s0 s1 s2 σ = some r) : Fr s_M_raise σ r := by
  unfold f_M_raise_70 at h
  obtain ⟨r15, -, h⟩ := xbR_ex h
  obtain ⟨-, h⟩ := gu_ex h
  obtain ⟨σ16, e2, h⟩ := xlet_ex h
  have F2 : Fr s_M_raise σ σ16 := Fr.up Fr.rf e2 (rfl)
  obtain ⟨x17, -, h⟩ := xlet_ex h
  exact Fr.call F2 (hk36 h) (rfl)
theorem fr_M_raise_36 {q_M_raise : (Int → Int → Int → Int → xSt → Option (xSt))} (hq_M_raise : ∀ {z0 : Int} {z1 : Int} {z2 : Int} {z3 : Int} {σ : xSt} {r : (xSt)}, q_M_raise z0 z1 z2 z3 σ = some r → Fr s_M_raise σ r) : ∀ (n : Nat) {l2 : Int} {l4 : Int} {l5 : Int} {l7 : Int} {l8 : Int} {σ : xSt} {r : (xSt)}, f_M_raise_36 q_M_raise n l2 l4 l5 l7 l8 σ = some r → Fr s_M_raise σ r := by
  intro n
  induction n with
  | zero => exact fun h => nomatch h
  | succ n ih =>
    intro l2 l4 l5 l7 l8 σ r h
    unfold f_M_raise_36 at h
    rcases ite_ex h with ⟨-, h⟩ | ⟨-, h⟩
    · cases h
      exact Fr.rf
    · obtain ⟨-, h⟩ := gu_ex h
      rcases ite_ex h with ⟨-, h⟩ | ⟨-, h⟩
      · exact Fr.call Fr.rf (fr_M_raise_70 hq_M_raise (fun h => ih h) h) (subL_rf _)
      · exact Fr.call Fr.rf (fr_M_raise_70 hq_M_raise (fun h => ih h) h) (subL_rf _)
theorem fr_M_raise_159 {q_M_raise : (Int → Int → Int → Int → xSt → Option (xSt))} {k97 : (Int → Int → Int → Int → Int → Int → xSt → Option (xSt))} {l1 : Int} {l2 : Int} {l4 : Int} {l5 : Int} {l7 : Int} {l8 : Int} {s0 : Int} {s1 : Int} {s2 : Int} {s3 : Int} (hq_M_raise : ∀ {z0 : Int} {z1 : Int} {z2 : Int} {z3 : Int} {σ : xSt} {r : (xSt)}, q_M_raise z0 z1 z2 z3 σ = some r → Fr s_M_raise σ r) (hk97 : ∀ {z0 : Int} {z1 : Int} {z2 : Int} {z3 : Int} {z4 : Int} {z5 : Int} {σ : xSt} {r : (xSt)}, k97 z0 z1 z2 z3 z4 z5 σ = some r → Fr s_M_raise σ r) {σ : xSt} {r : (xSt)} (h : f_M_raise_159 q_M_raise k97 l1 l2 l4 l5 l7 l8 s0 s1 s2 s3 σ = some r) : Fr s_M_raise σ r := by
  unfold f_M_raise_159 at h
  obtain ⟨σ18, e1, h⟩ := xbR_ex h
  have F1 : Fr s_M_raise σ σ18 := Fr.call Fr.rf (hq_M_raise e1) (rfl)
  obtain ⟨x19, -, h⟩ := xlet_ex h
  exact Fr.call F1 (hk97 h) (rfl)
theorem fr_M_raise_145 {q_M_raise : (Int → Int → Int → Int → xSt → Option (xSt))} {k97 : (Int → Int → Int → Int → Int → Int → xSt → Option (xSt))} {l1 : Int} {l2 : Int} {l4 : Int} {l5 : Int} {l7 : Int} {l8 : Int} {s0 : Int} {s1 : Int} {s2 : Int} (hq_M_raise : ∀ {z0 : Int} {z1 : Int} {z2 : Int} {z3 : Int} {σ : xSt} {r : (xSt)}, q_M_raise z0 z1 z2 z3 σ = some r → Fr s_M_raise σ r) (hk97 : ∀ {z0 : Int} {z1 : Int} {z2 : Int} {z3 : Int} {z4 : Int} {z5 : Int} {σ : xSt} {r : (xSt)}, k97 z0 z1 z2 z3 z4 z5 σ = some r → Fr s_M_raise σ r) {σ : xSt} {r : (xSt)} (h : f_M_raise_145 q_M_raise k97 l1 l2 l4 l5 l7 l8 s0 s1 s2 σ = some r) : Fr s_M_raise σ r := by
  unfold f_M_raise_145 at h
  rcases ite_ex h with ⟨-, h⟩ | ⟨-, h⟩
  · exact Fr.call Fr.rf (fr_M_raise_159 hq_M_raise hk97 h) (subL_rf _)
  · exact Fr.call Fr.rf (fr_M_raise_159 hq_M_raise hk97 h) (subL_rf _)
theorem fr_M_raise_97 {q_M_raise : (Int → Int → Int → Int → xSt → Option (xSt))} (hq_M_raise : ∀ {z0 : Int} {z1 : Int} {z2 : Int} {z3 : Int} {σ : xSt} {r : (xSt)}, q_M_raise z0 z1 z2 z3 σ = some r → Fr s_M_raise σ r) : ∀ (n : Nat) {l1 : Int} {l2 : Int} {l4 : Int} {l5 : Int} {l7 : Int} {l8 : Int} {σ : xSt} {r : (xSt)}, f_M_raise_97 q_M_raise n l1 l2 l4 l5 l7 l8 σ = some r → Fr s_M_raise σ r := by
  intro n
  induction n with
  | zero => exact fun h => nomatch h
  | succ n ih =>
    intro l1 l2 l4 l5 l7 l8 σ r h
    unfold f_M_raise_97 at h
    obtain ⟨r6, -, h⟩ := xbR_ex h
    rcases ite_ex h with ⟨-, h⟩ | ⟨-, h⟩
    · rcases ite_ex h with ⟨-, h⟩ | ⟨-, h⟩
      · obtain ⟨r7, -, h⟩ := xbR_ex h
        rcases ite_ex h with ⟨-, h⟩ | ⟨-, h⟩
        · exact Fr.call Fr.rf (fr_M_raise_145 hq_M_raise (fun h => ih h) h) (subL_rf _)
        · exact Fr.call Fr.rf (fr_M_raise_145 hq_M_raise (fun h => ih h) h) (subL_rf _)
      · obtain ⟨r8, -, h⟩ := xbR_ex h
        rcases ite_ex h with ⟨-, h⟩ | ⟨-, h⟩
        · obtain ⟨r9, -, h⟩ := xbR_ex h
          obtain ⟨r10, -, h⟩ := xbR_ex h
          obtain ⟨-, h⟩ := gd_ex h
          obtain ⟨r11, -, h⟩ := xbR_ex h
          obtain ⟨σ12, e7, h⟩ := xbR_ex h
          have F7 : Fr s_M_raise σ σ12 := Fr.call Fr.rf (hq_M_raise e7) (rfl)
          obtain ⟨x13, -, h⟩ := xlet_ex h
          exact Fr.call F7 (ih h) (subL_rf _)
        · obtain ⟨x14, -, h⟩ := xlet_ex h
          exact Fr.call Fr.rf (ih h) (subL_rf _)
    · cases h
      exact Fr.rf
theorem fr0_M_raise {q_M_raise : (Int → Int → Int → Int → xSt → Option (xSt))} {p1 : Int} {p2 : Int} {p3 : Int} {p4 : Int} (hq_M_raise : ∀ {z0 : Int} {z1 : Int} {z2 : Int} {z3 : Int} {σ : xSt} {r : (xSt)}, q_M_raise z0 z1 z2 z3 σ = some r → Fr s_M_raise σ r) {σ : xSt} {r : (xSt)} (h : f0_M_raise q_M_raise p1 p2 p3 p4 σ = some r) : Fr s_M_raise σ r := by
  unfold f0_M_raise at h
  obtain ⟨r1, -, h⟩ := xbR_ex h
  rcases ite_ex h with ⟨-, h⟩ | ⟨-, h⟩
  · rcases ite_ex h with ⟨-, h⟩ | ⟨-, h⟩
    · obtain ⟨r2, -, h⟩ := xbR_ex h
      obtain ⟨x3, -, h⟩ := xlet_ex h
      exact Fr.call Fr.rf (fr_M_raise_36 hq_M_raise _ h) (subL_rf _)
    · obtain ⟨x4, -, h⟩ := xlet_ex h
      exact Fr.call Fr.rf (fr_M_raise_36 hq_M_raise _ h) (subL_rf _)
  · obtain ⟨r5, -, h⟩ := xbR_ex h
    exact Fr.call Fr.rf (fr_M_raise_97 hq_M_raise _ h) (subL_rf _)
theorem frg_M_raise : ∀ n, (∀ {p1 : Int} {p2 : Int} {p3 : Int} {p4 : Int} {σ : xSt} {r : (xSt)}, f_M_raise n p1 p2 p3 p4 σ = some r → Fr s_M_raise σ r) := by
  intro n
  induction n with
  | zero => exact (fun h => nomatch h)
  | succ n ih => exact fun h => fr0_M_raise (q_M_raise := (g_M_raise n)) (fun h => ih h) h
theorem fr_M_raise {n : Nat} {p1 : Int} {p2 : Int} {p3 : Int} {p4 : Int} {σ : xSt} {r : (xSt)} (h : f_M_raise n p1 p2 p3 p4 σ = some r) : Fr s_M_raise σ r := (frg_M_raise _) h
theorem fr_M_layPowers_17 {k7 : (Int → xSt → Option (xSt))} (hk7 : ∀ {z0 : Int} {σ : xSt} {r : (xSt)}, k7 z0 σ = some r → Fr s_M_layPowers σ r) : ∀ (n : Nat) {l1 : Int} {l2 : Int} {σ : xSt} {r : (xSt)}, f_M_layPowers_17 k7 n l1 l2 σ = some r → Fr s_M_layPowers σ r := by
  intro n
  induction n with
  | zero => exact fun h => nomatch h
  | succ n ih =>
    intro l1 l2 σ r h
    unfold f_M_layPowers_17 at h
    rcases ite_ex h with ⟨-, h⟩ | ⟨-, h⟩
    · rcases ite_ex h with ⟨-, h⟩ | ⟨-, h⟩
      · obtain ⟨x3, -, h⟩ := xlet_ex h
        exact Fr.call Fr.rf (hk7 h) (rfl)
      · obtain ⟨r4, -, h⟩ := xbR_ex h
        rcases ite_ex h with ⟨-, h⟩ | ⟨-, h⟩
        · obtain ⟨x5, -, h⟩ := xlet_ex h
          exact Fr.call Fr.rf (hk7 h) (rfl)
        · obtain ⟨r6, -, h⟩ := xbR_ex h
          obtain ⟨σ7, e3, h⟩ := xlet_ex h
          have F3 : Fr s_M_layPowers σ σ7 := Fr.up Fr.rf e3 (rfl)
          obtain ⟨x8, -, h⟩ := xlet_ex h
          exact Fr.call F3 (ih h) (subL_rf _)
    · obtain ⟨x9, -, h⟩ := xlet_ex h
      exact Fr.call Fr.rf (hk7 h) (rfl)
theorem fr_M_layPowers_74 : ∀ (n : Nat) {l1 : Int} {σ : xSt} {r : (xSt)}, f_M_layPowers_74  n l1 σ = some r → Fr s_M_layPowers σ r := by
  intro n
  induction n with
  | zero => exact fun h => nomatch h
  | succ n ih =>
    intro l1 σ r h
    unfold f_M_layPowers_74 at h
    rcases ite_ex h with ⟨-, h⟩ | ⟨-, h⟩
    · obtain ⟨-, h⟩ := gu_ex h
      obtain ⟨σ10, e1, h⟩ := xlet_ex h
      have F1 : Fr s_M_layPowers σ σ10 := Fr.up Fr.rf e1 (rfl)
      obtain ⟨x11, -, h⟩ := xlet_ex h
      exact Fr.call F1 (ih h) (subL_rf _)
    · obtain ⟨σ12, e2, h⟩ := xbR_ex h
      have F2 : Fr s_M_layPowers σ σ12 := Fr.call Fr.rf (fr_M_raise e2) (rfl)
      cases h
      exact F2
theorem fr_M_layPowers_7 : ∀ (n : Nat) {l1 : Int} {σ : xSt} {r : (xSt)}, f_M_layPowers_7  n l1 σ = some r → Fr s_M_layPowers σ r := by
  intro n
  induction n with
  | zero => exact fun h => nomatch h
  | succ n ih =>
    intro l1 σ r h
    unfold f_M_layPowers_7 at h
    obtain ⟨r2, -, h⟩ := xbR_ex h
    rcases ite_ex h with ⟨-, h⟩ | ⟨-, h⟩
    · exact Fr.call Fr.rf (fr_M_layPowers_17 (fun h => ih h) _ h) (subL_rf _)
    · exact Fr.call Fr.rf (fr_M_layPowers_74 _ h) (subL_rf _)
theorem fr_M_layPowers {σ : xSt} {r : (xSt)} (h : f_M_layPowers σ = some r) : Fr s_M_layPowers σ r := by
  unfold f_M_layPowers at h
  obtain ⟨σ1, e1, h⟩ := xlet_ex h
  have F1 : Fr s_M_layPowers σ σ1 := Fr.up Fr.rf e1 (rfl)
  exact Fr.call F1 (fr_M_layPowers_7 _ h) (subL_rf _)
theorem fr_M_poly_43 {σ : xSt} {r : (Int × xSt)} (h : f_M_poly_43 σ = some r) : Fr s_M_poly σ r.2 := by
  unfold f_M_poly_43 at h
  obtain ⟨r8, σ9, e1, h⟩ := xbW_ex h
  have F1 : Fr s_M_poly σ σ9 := Fr.call Fr.rf (fr_M_refuseLong e1) (rfl)
  cases h
  exact F1
theorem fr_M_poly_74 {l2 : Int} {l3 : Int} {s0 : Int} {s1 : Int} {σ : xSt} {r : (Int × xSt)} (h : f_M_poly_74 l2 l3 s0 s1 σ = some r) : Fr s_M_poly σ r.2 := by
  unfold f_M_poly_74 at h
  obtain ⟨-, h⟩ := gu_ex h
  obtain ⟨r10, -, h⟩ := xbR_ex h
  cases h
  exact Fr.rf
theorem fr_M_poly_17 {l1 : Int} {l2 : Int} {l3 : Int} {σ : xSt} {r : (Int × xSt)} (h : f_M_poly_17 l1 l2 l3 σ = some r) : Fr s_M_poly σ r.2 := by
  unfold f_M_poly_17 at h
  obtain ⟨r3, -, h⟩ := xbR_ex h
  rcases ite_ex h with ⟨-, h⟩ | ⟨-, h⟩
  · exact Fr.call Fr.rf (fr_M_poly_43 h) (subL_rf _)
  · obtain ⟨r4, -, h⟩ := xbR_ex h
    rcases ite_ex h with ⟨-, h⟩ | ⟨-, h⟩
    · exact Fr.call Fr.rf (fr_M_poly_43 h) (subL_rf _)
    · obtain ⟨r5, -, h⟩ := xbR_ex h
      rcases ite_ex h with ⟨-, h⟩ | ⟨-, h⟩
      · exact Fr.call Fr.rf (fr_M_poly_43 h) (subL_rf _)
      · obtain ⟨σ6, e4, h⟩ := xlet_ex h
        have F4 : Fr s_M_poly σ σ6 := Fr.up Fr.rf e4 (rfl)
        obtain ⟨σ7, e5, h⟩ := xbR_ex h
        have F5 : Fr s_M_poly σ σ7 := Fr.call F4 (fr_M_layPowers e5) (rfl)
        rcases ite_ex h with ⟨-, h⟩ | ⟨-, h⟩
        · exact Fr.call F5 (fr_M_poly_74 h) (subL_rf _)
        · exact Fr.call F5 (fr_M_poly_74 h) (subL_rf _)
theorem fr_M_poly {p1 : Int} {p2 : Int} {p3 : Int} {σ : xSt} {r : (Int × xSt)} (h : f_M_poly p1 p2 p3 σ = some r) : Fr s_M_poly σ r.2 := by
  unfold f_M_poly at h
  obtain ⟨σ1, e1, h⟩ := xbR_ex h
  have F1 : Fr s_M_poly σ σ1 := Fr.call Fr.rf (fr_M_lay e1) (rfl)
  rcases ite_ex h with ⟨-, h⟩ | ⟨-, h⟩
  · exact Fr.call F1 (fr_M_poly_17 h) (subL_rf _)
  · obtain ⟨r2, -, h⟩ := xbR_ex h
    rcases ite_ex h with ⟨-, h⟩ | ⟨-, h⟩
    · exact Fr.call F1 (fr_M_poly_43 h) (subL_rf _)
    · exact Fr.call F1 (fr_M_poly_17 h) (subL_rf _)
theorem fr_M_like {p1 : Int} {p2 : Int} {σ : xSt} {r : (Int × xSt)} (h : f_M_like p1 p2 σ = some r) : Fr s_M_like σ r.2 := by
  unfold f_M_like at h
  obtain ⟨σ1, e1, h⟩ := xlet_ex h
  have F1 : Fr s_M_like σ σ1 := Fr.up Fr.rf e1 (rfl)
  obtain ⟨r2, -, h⟩ := xbR_ex h
  rcases ite_ex h with ⟨-, h⟩ | ⟨-, h⟩
  · cases h
    exact F1
  · obtain ⟨r3, -, h⟩ := xbR_ex h
    rcases ite_ex h with ⟨-, h⟩ | ⟨-, h⟩
    · cases h
      exact F1
    · obtain ⟨r4, -, h⟩ := xbR_ex h
      rcases ite_ex h with ⟨-, h⟩ | ⟨-, h⟩
      · cases h
        exact F1
      · obtain ⟨σ5, e5, h⟩ := xbR_ex h
        have F5 : Fr s_M_like σ σ5 := Fr.call F1 (fr_M_layPowers e5) (rfl)
        obtain ⟨r6, -, h⟩ := xbR_ex h
        rcases ite_ex h with ⟨-, h⟩ | ⟨-, h⟩
        · cases h
          exact F5
        · cases h
          exact F5
theorem fr_M_even_27 : ∀ (n : Nat) {l1 : Int} {σ : xSt} {r : (Int × xSt)}, f_M_even_27  n l1 σ = some r → Fr s_M_even σ r.2 := by
  intro n
  induction n with
  | zero => exact fun h => nomatch h
  | succ n ih =>
    intro l1 σ r h
    unfold f_M_even_27 at h
    obtain ⟨r5, -, h⟩ := xbR_ex h
    rcases ite_ex h with ⟨-, h⟩ | ⟨-, h⟩
    · obtain ⟨r6, -, h⟩ := xbR_ex h
      rcases ite_ex h with ⟨-, h⟩ | ⟨-, h⟩
      · cases h
        exact Fr.rf
      · obtain ⟨r7, -, h⟩ := xbR_ex h
        rcases ite_ex h with ⟨-, h⟩ | ⟨-, h⟩
        · cases h
          exact Fr.rf
        · obtain ⟨x8, -, h⟩ := xlet_ex h
          exact Fr.call Fr.rf (ih h) (subL_rf _)
    · cases h
      exact Fr.rf
theorem fr_M_even {σ : xSt} {r : (Int × xSt)} (h : f_M_even σ = some r) : Fr s_M_even σ r.2 := by
  unfold f_M_even at h
  obtain ⟨σ1, e1, h⟩ := xlet_ex h
  have F1 : Fr s_M_even σ σ1 := Fr.up Fr.rf e1 (rfl)
  obtain ⟨r2, -, h⟩ := xbR_ex h
  rcases ite_ex h with ⟨-, h⟩ | ⟨-, h⟩
  · cases h
    exact F1
  · obtain ⟨r3, -, h⟩ := xbR_ex h
    rcases ite_ex h with ⟨-, h⟩ | ⟨-, h⟩
    · cases h
      exact F1
    · obtain ⟨σ4, e4, h⟩ := xbR_ex h
      have F4 : Fr s_M_even σ σ4 := Fr.call F1 (fr_M_layPowers e4) (rfl)
      exact Fr.call F4 (fr_M_even_27 _ h) (subL_rf _)
