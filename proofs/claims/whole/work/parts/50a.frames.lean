/-! printed by wip/whole/mk50.py -/
theorem fr_X_feedNumber_3 : ∀ (n : Nat) {l1 : Int} {l2 : Int} {σ : xSt} {r : (xSt)}, f_X_feedNumber_3  n l1 l2 σ = some r → Fr s_X_feedNumber σ r := by
  intro n
  induction n with
  | zero => exact fun h => nomatch h
  | succ n ih =>
    intro l1 l2 σ r h
    unfold f_X_feedNumber_3 at h
    rcases ite_ex h with ⟨-, h⟩ | ⟨-, h⟩
    · cases h
      exact Fr.rf
    · obtain ⟨r1, -, h⟩ := xbR_ex h
      rcases ite_ex h with ⟨-, h⟩ | ⟨-, h⟩
      · obtain ⟨x2, -, h⟩ := xlet_ex h
        exact Fr.call Fr.rf (ih h) (subL_rf _)
      · obtain ⟨-, h⟩ := gu_ex h
        obtain ⟨σ3, e2, h⟩ := xlet_ex h
        have F2 : Fr s_X_feedNumber σ σ3 := Fr.up Fr.rf e2 (rfl)
        obtain ⟨σ4, e3, h⟩ := xlet_ex h
        have F3 : Fr s_X_feedNumber σ σ4 := Fr.up F2 e3 (rfl)
        obtain ⟨x5, -, h⟩ := xlet_ex h
        exact Fr.call F3 (ih h) (subL_rf _)
theorem fr_X_feedNumber {p1 : Int} {σ : xSt} {r : (xSt)} (h : f_X_feedNumber p1 σ = some r) : Fr s_X_feedNumber σ r := by
  unfold f_X_feedNumber at h
  exact Fr.call Fr.rf (fr_X_feedNumber_3 _ h) (subL_rf _)
theorem fr_X_feed {p1 : Int} {p2 : Int} {p3 : Int} {p4 : Int} {p5 : Int} {σ : xSt} {r : (Int × xSt)} (h : f_X_feed p1 p2 p3 p4 p5 σ = some r) : Fr s_X_feed σ r.2 := by
  unfold f_X_feed at h
  rcases ite_ex h with ⟨-, h⟩ | ⟨-, h⟩
  · cases h
    exact Fr.rf
  · obtain ⟨σ1, e1, h⟩ := xbR_ex h
    have F1 : Fr s_X_feed σ σ1 := Fr.call Fr.rf (fr_X_feedNumber e1) (rfl)
    obtain ⟨σ2, e2, h⟩ := xbR_ex h
    have F2 : Fr s_X_feed σ σ2 := Fr.call F1 (fr_X_feedNumber e2) (rfl)
    obtain ⟨σ3, e3, h⟩ := xbR_ex h
    have F3 : Fr s_X_feed σ σ3 := Fr.call F2 (fr_X_feedNumber e3) (rfl)
    obtain ⟨σ4, e4, h⟩ := xbR_ex h
    have F4 : Fr s_X_feed σ σ4 := Fr.call F3 (fr_X_feedNumber e4) (rfl)
    obtain ⟨σ5, e5, h⟩ := xbR_ex h
    have F5 : Fr s_X_feed σ σ5 := Fr.call F4 (fr_X_feedNumber e5) (rfl)
    cases h
    exact F5
theorem fr_X_end {p1 : Int} {σ : xSt} {r : (Int × xSt)} (h : f_X_end p1 σ = some r) : Fr s_X_end σ r.2 := by
  unfold f_X_end at h
  rcases ite_ex h with ⟨-, h⟩ | ⟨-, h⟩
  · cases h
    exact Fr.rf
  · rcases ite_ex h with ⟨-, h⟩ | ⟨-, h⟩
    · cases h
      exact Fr.rf
    · obtain ⟨σ1, e1, h⟩ := xlet_ex h
      have F1 : Fr s_X_end σ σ1 := Fr.up Fr.rf e1 (rfl)
      cases h
      exact F1
theorem fr_X_takeTape {σ : xSt} {r : (Int × xSt)} (h : f_X_takeTape σ = some r) : Fr s_X_takeTape σ r.2 := by
  unfold f_X_takeTape at h
  obtain ⟨x1, -, h⟩ := xlet_ex h
  obtain ⟨σ2, e1, h⟩ := xlet_ex h
  have F1 : Fr s_X_takeTape σ σ2 := Fr.up Fr.rf e1 (rfl)
  cases h
  exact F1
theorem fr_Tokens_add {p1 : Int} {p2 : Int} {p3 : Int} {σ : xSt} {r : (xSt)} (h : f_Tokens_add p1 p2 p3 σ = some r) : Fr s_Tokens_add σ r := by
  unfold f_Tokens_add at h
  obtain ⟨r1, -, h⟩ := xbR_ex h
  rcases ite_ex h with ⟨-, h⟩ | ⟨-, h⟩
  · cases h
    exact Fr.rf
  · obtain ⟨-, h⟩ := gu_ex h
    obtain ⟨σ2, e2, h⟩ := xlet_ex h
    have F2 : Fr s_Tokens_add σ σ2 := Fr.up Fr.rf e2 (rfl)
    obtain ⟨-, h⟩ := gu_ex h
    obtain ⟨σ3, e3, h⟩ := xlet_ex h
    have F3 : Fr s_Tokens_add σ σ3 := Fr.up F2 e3 (rfl)
    obtain ⟨-, h⟩ := gu_ex h
    obtain ⟨σ4, e4, h⟩ := xlet_ex h
    have F4 : Fr s_Tokens_add σ σ4 := Fr.up F3 e4 (rfl)
    obtain ⟨σ5, e5, h⟩ := xlet_ex h
    have F5 : Fr s_Tokens_add σ σ5 := Fr.up F4 e5 (rfl)
    cases h
    exact F5
theorem fr_Tokens_readRun_117 {l1 : Int} {l5 : Int} {l7 : Int} {s0 : Int} {σ : xSt} {r : (Int × xSt)} (h : f_Tokens_readRun_117 l1 l5 l7 s0 σ = some r) : Fr s_Tokens_readRun σ r.2 := by
  unfold f_Tokens_readRun_117 at h
  obtain ⟨σ12, e1, h⟩ := xbR_ex h
  have F1 : Fr s_Tokens_readRun σ σ12 := Fr.call Fr.rf (fr_Tokens_add e1) (rfl)
  cases h
  exact F1
theorem fr_Tokens_readRun_147 {l1 : Int} {l7 : Int} {σ : xSt} {r : (Int × xSt)} (h : f_Tokens_readRun_147 l1 l7 σ = some r) : Fr s_Tokens_readRun σ r.2 := by
  unfold f_Tokens_readRun_147 at h
  obtain ⟨σ13, e1, h⟩ := xbR_ex h
  have F1 : Fr s_Tokens_readRun σ σ13 := Fr.call Fr.rf (fr_Tokens_add e1) (rfl)
  cases h
  exact F1
theorem fr_Tokens_readRun_126 {l1 : Int} {l3 : Int} {l4 : Int} {l6 : Int} {l7 : Int} {σ : xSt} {r : (Int × xSt)} (h : f_Tokens_readRun_126 l1 l3 l4 l6 l7 σ = some r) : Fr s_Tokens_readRun σ r.2 := by
  unfold f_Tokens_readRun_126 at h
  rcases ite_ex h with ⟨-, h⟩ | ⟨-, h⟩
  · rcases ite_ex h with ⟨-, h⟩ | ⟨-, h⟩
    · exact Fr.call Fr.rf (fr_Tokens_readRun_147 h) (subL_rf _)
    · obtain ⟨σ11, e1, h⟩ := xbR_ex h
      have F1 : Fr s_Tokens_readRun σ σ11 := Fr.call Fr.rf (fr_Tokens_add e1) (rfl)
      cases h
      exact F1
  · exact Fr.call Fr.rf (fr_Tokens_readRun_147 h) (subL_rf _)
theorem fr_Tokens_readRun_92 {l1 : Int} {l3 : Int} {l4 : Int} {l5 : Int} {l6 : Int} {l7 : Int} {σ : xSt} {r : (Int × xSt)} (h : f_Tokens_readRun_92 l1 l3 l4 l5 l6 l7 σ = some r) : Fr s_Tokens_readRun σ r.2 := by
  unfold f_Tokens_readRun_92 at h
  rcases ite_ex h with ⟨-, h⟩ | ⟨-, h⟩
  · rcases ite_ex h with ⟨-, h⟩ | ⟨-, h⟩
    · exact Fr.call Fr.rf (fr_Tokens_readRun_126 h) (subL_rf _)
    · obtain ⟨r10, -, h⟩ := xbR_ex h
      rcases ite_ex h with ⟨-, h⟩ | ⟨-, h⟩
      · exact Fr.call Fr.rf (fr_Tokens_readRun_117 h) (subL_rf _)
      · exact Fr.call Fr.rf (fr_Tokens_readRun_117 h) (subL_rf _)
  · exact Fr.call Fr.rf (fr_Tokens_readRun_126 h) (subL_rf _)
theorem fr_Tokens_readRun_14 : ∀ (n : Nat) {l1 : Int} {l2 : Int} {l3 : Int} {l4 : Int} {l5 : Int} {l6 : Int} {l7 : Int} {σ : xSt} {r : (Int × xSt)}, f_Tokens_readRun_14  n l1 l2 l3 l4 l5 l6 l7 σ = some r → Fr s_Tokens_readRun σ r.2 := by
  intro n
  induction n with
  | zero => exact fun h => nomatch h
  | succ n ih =>
    intro l1 l2 l3 l4 l5 l6 l7 σ r h
    unfold f_Tokens_readRun_14 at h
    rcases ite_ex h with ⟨-, h⟩ | ⟨-, h⟩
    · rcases ite_ex h with ⟨-, h⟩ | ⟨-, h⟩
      · obtain ⟨-, h⟩ := gu_ex h
        obtain ⟨x1, -, h⟩ := xlet_ex h
        obtain ⟨r2, -, h⟩ := xbR_ex h
        rcases ite_ex h with ⟨-, h⟩ | ⟨-, h⟩
        · obtain ⟨r3, -, h⟩ := xbR_ex h
          rcases ite_ex h with ⟨-, h⟩ | ⟨-, h⟩
          · exact Fr.call Fr.rf (fr_Tokens_readRun_92 h) (subL_rf _)
          · obtain ⟨x4, -, h⟩ := xlet_ex h
            obtain ⟨x5, -, h⟩ := xlet_ex h
            obtain ⟨x6, -, h⟩ := xlet_ex h
            exact Fr.call Fr.rf (ih h) (subL_rf _)
        · obtain ⟨x7, -, h⟩ := xlet_ex h
          obtain ⟨r8, -, h⟩ := xbR_ex h
          obtain ⟨x9, -, h⟩ := xlet_ex h
          exact Fr.call Fr.rf (ih h) (subL_rf _)
      · exact Fr.call Fr.rf (fr_Tokens_readRun_92 h) (subL_rf _)
    · exact Fr.call Fr.rf (fr_Tokens_readRun_92 h) (subL_rf _)
theorem fr_Tokens_readRun {p1 : Int} {p2 : Int} {σ : xSt} {r : (Int × xSt)} (h : f_Tokens_readRun p1 p2 σ = some r) : Fr s_Tokens_readRun σ r.2 := by
  unfold f_Tokens_readRun at h
  exact Fr.call Fr.rf (fr_Tokens_readRun_14 _ h) (subL_rf _)
theorem fr_Tokens_readToken_38 {l1 : Int} {l2 : Int} {σ : xSt} {r : (Int × xSt)} (h : f_Tokens_readToken_38 l1 l2 σ = some r) : Fr s_Tokens_readToken σ r.2 := by
  unfold f_Tokens_readToken_38 at h
  obtain ⟨r6, σ7, e1, h⟩ := xbW_ex h
  have F1 : Fr s_Tokens_readToken σ σ7 := Fr.call Fr.rf (fr_Tokens_readRun e1) (rfl)
  cases h
  exact F1
theorem fr_Tokens_readToken_71 {l1 : Int} {l3 : Int} {s0 : Int} {σ : xSt} {r : (Int × xSt)} (h : f_Tokens_readToken_71 l1 l3 s0 σ = some r) : Fr s_Tokens_readToken σ r.2 := by
  unfold f_Tokens_readToken_71 at h
  obtain ⟨σ5, e1, h⟩ := xbR_ex h
  have F1 : Fr s_Tokens_readToken σ σ5 := Fr.call Fr.rf (fr_Tokens_add e1) (rfl)
  cases h
  exact F1
theorem fr_Tokens_readToken_23 {l1 : Int} {l2 : Int} {s0 : Int} {σ : xSt} {r : (Int × xSt)} (h : f_Tokens_readToken_23 l1 l2 s0 σ = some r) : Fr s_Tokens_readToken σ r.2 := by
  unfold f_Tokens_readToken_23 at h
  obtain ⟨r2, -, h⟩ := xbR_ex h
  rcases ite_ex h with ⟨-, h⟩ | ⟨-, h⟩
  · obtain ⟨r3, -, h⟩ := xbR_ex h
    rcases ite_ex h with ⟨-, h⟩ | ⟨-, h⟩
    · rcases ite_ex h with ⟨-, h⟩ | ⟨-, h⟩
      · cases h
        exact Fr.rf
      · rcases ite_ex h with ⟨-, h⟩ | ⟨-, h⟩
        · cases h
          exact Fr.rf
        · obtain ⟨r4, -, h⟩ := xbR_ex h
          rcases ite_ex h with ⟨-, h⟩ | ⟨-, h⟩
          · exact Fr.call Fr.rf (fr_Tokens_readToken_71 h) (subL_rf _)
          · exact Fr.call Fr.rf (fr_Tokens_readToken_71 h) (subL_rf _)
    · exact Fr.call Fr.rf (fr_Tokens_readToken_38 h) (subL_rf _)
  · exact Fr.call Fr.rf (fr_Tokens_readToken_38 h) (subL_rf _)
theorem fr_Tokens_readToken {p1 : Int} {p2 : Int} {σ : xSt} {r : (Int × xSt)} (h : f_Tokens_readToken p1 p2 σ = some r) : Fr s_Tokens_readToken σ r.2 := by
  unfold f_Tokens_readToken at h
  obtain ⟨r1, -, h⟩ := xbR_ex h
  rcases ite_ex h with ⟨-, h⟩ | ⟨-, h⟩
  · exact Fr.call Fr.rf (fr_Tokens_readToken_23 h) (subL_rf _)
  · obtain ⟨-, h⟩ := gu_ex h
    exact Fr.call Fr.rf (fr_Tokens_readToken_23 h) (subL_rf _)
theorem fr_Tokens_step {σ : xSt} {r : (xSt)} (h : f_Tokens_step σ = some r) : Fr s_Tokens_step σ r := by
  unfold f_Tokens_step at h
  obtain ⟨r1, -, h⟩ := xbR_ex h
  rcases ite_ex h with ⟨-, h⟩ | ⟨-, h⟩
  · cases h
    exact Fr.rf
  · rcases ite_ex h with ⟨-, h⟩ | ⟨-, h⟩
    · obtain ⟨σ2, e2, h⟩ := xlet_ex h
      have F2 : Fr s_Tokens_step σ σ2 := Fr.up Fr.rf e2 (rfl)
      obtain ⟨-, h⟩ := gu_ex h
      obtain ⟨σ3, e3, h⟩ := xlet_ex h
      have F3 : Fr s_Tokens_step σ σ3 := Fr.up F2 e3 (rfl)
      obtain ⟨-, h⟩ := gu_ex h
      obtain ⟨σ4, e4, h⟩ := xlet_ex h
      have F4 : Fr s_Tokens_step σ σ4 := Fr.up F3 e4 (rfl)
      obtain ⟨-, h⟩ := gu_ex h
      obtain ⟨σ5, e5, h⟩ := xlet_ex h
      have F5 : Fr s_Tokens_step σ σ5 := Fr.up F4 e5 (rfl)
      cases h
      exact F5
    · cases h
      exact Fr.rf
theorem fr_Tokens_begin_62 {l1 : Int} {l2 : Int} {s0 : Int} {σ : xSt} {r : (xSt)} (h : f_Tokens_begin_62 l1 l2 s0 σ = some r) : Fr s_Tokens_begin σ r := by
  unfold f_Tokens_begin_62 at h
  obtain ⟨σ7, e1, h⟩ := xbR_ex h
  have F1 : Fr s_Tokens_begin σ σ7 := Fr.call Fr.rf (fr_Tokens_add e1) (rfl)
  obtain ⟨σ8, e2, h⟩ := xlet_ex h
  have F2 : Fr s_Tokens_begin σ σ8 := Fr.up F1 e2 (rfl)
  obtain ⟨σ9, e3, h⟩ := xbR_ex h
  have F3 : Fr s_Tokens_begin σ σ9 := Fr.call F2 (fr_Tokens_step e3) (rfl)
  cases h
  exact F3
theorem fr_Tokens_begin_51 {l1 : Int} {l2 : Int} {σ : xSt} {r : (xSt)} (h : f_Tokens_begin_51 l1 l2 σ = some r) : Fr s_Tokens_begin σ r := by
  unfold f_Tokens_begin_51 at h
  rcases ite_ex h with ⟨-, h⟩ | ⟨-, h⟩
  · exact Fr.call Fr.rf (fr_Tokens_begin_62 h) (subL_rf _)
  · exact Fr.call Fr.rf (fr_Tokens_begin_62 h) (subL_rf _)
theorem fr_Tokens_begin_20 : ∀ (n : Nat) {l1 : Int} {l2 : Int} {l3 : Int} {l4 : Int} {σ : xSt} {r : (xSt)}, f_Tokens_begin_20  n l1 l2 l3 l4 σ = some r → Fr s_Tokens_begin σ r := by
  intro n
  induction n with
  | zero => exact fun h => nomatch h
  | succ n ih =>
    intro l1 l2 l3 l4 σ r h
    unfold f_Tokens_begin_20 at h
    rcases ite_ex h with ⟨-, h⟩ | ⟨-, h⟩
    · rcases ite_ex h with ⟨-, h⟩ | ⟨-, h⟩
      · rcases ite_ex h with ⟨-, h⟩ | ⟨-, h⟩
        · obtain ⟨r4, σ5, e1, h⟩ := xbW_ex h
          have F1 : Fr s_Tokens_begin σ σ5 := Fr.call Fr.rf (fr_Tokens_readToken e1) (rfl)
          obtain ⟨x6, -, h⟩ := xlet_ex h
          exact Fr.call F1 (ih h) (subL_rf _)
        · exact Fr.call Fr.rf (fr_Tokens_begin_51 h) (subL_rf _)
      · exact Fr.call Fr.rf (fr_Tokens_begin_51 h) (subL_rf _)
    · exact Fr.call Fr.rf (fr_Tokens_begin_51 h) (subL_rf _)
theorem fr_Tokens_begin {p1 : Int} {p2 : Int} {σ : xSt} {r : (xSt)} (h : f_Tokens_begin p1 p2 σ = some r) : Fr s_Tokens_begin σ r := by
  unfold f_Tokens_begin at h
  obtain ⟨σ1, e1, h⟩ := xlet_ex h
  have F1 : Fr s_Tokens_begin σ σ1 := Fr.up Fr.rf e1 (rfl)
  obtain ⟨σ2, e2, h⟩ := xlet_ex h
  have F2 : Fr s_Tokens_begin σ σ2 := Fr.up F1 e2 (rfl)
  obtain ⟨σ3, e3, h⟩ := xlet_ex h
  have F3 : Fr s_Tokens_begin σ σ3 := Fr.up F2 e3 (rfl)
  exact Fr.call F3 (fr_Tokens_begin_20 _ h) (subL_rf _)
theorem fr_Tokens_fail {p1 : Int} {σ : xSt} {r : (Int × xSt)} (h : f_Tokens_fail p1 σ = some r) : Fr s_Tokens_fail σ r.2 := by
  unfold f_Tokens_fail at h
  rcases ite_ex h with ⟨-, h⟩ | ⟨-, h⟩
  · obtain ⟨σ1, e1, h⟩ := xlet_ex h
    have F1 : Fr s_Tokens_fail σ σ1 := Fr.up Fr.rf e1 (rfl)
    obtain ⟨σ2, e2, h⟩ := xlet_ex h
    have F2 : Fr s_Tokens_fail σ σ2 := Fr.up F1 e2 (rfl)
    cases h
    exact F2
  · cases h
    exact Fr.rf
theorem fr_Table_readName_56 {a2 : Nat} {σ : xSt} {r : (Int × xSt)} (h : f_Table_readName_56 a2 σ = some r) : Fr (s_Table_readName a2) σ r.2 := by
  unfold f_Table_readName_56 at h
  obtain ⟨r12, σ13, e1, h⟩ := xbW_ex h
  have F1 : Fr (s_Table_readName a2) σ σ13 := Fr.call Fr.rf (fr_Tokens_fail e1) (by simp [subL, inS, s_Tokens_fail, s_Table_readName])
  cases h
  exact F1
theorem fr_Table_readName {a2 : Nat} {p3 : Int} {σ : xSt} {r : (Int × xSt)} (h : f_Table_readName a2 p3 σ = some r) : Fr (s_Table_readName a2) σ r.2 := by
  unfold f_Table_readName at h
  obtain ⟨r1, -, h⟩ := xbR_ex h
  rcases ite_ex h with ⟨-, h⟩ | ⟨-, h⟩
  · obtain ⟨r2, σ3, e2, h⟩ := xbW_ex h
    have F2 : Fr (s_Table_readName a2) σ σ3 := Fr.call Fr.rf (fr_Tokens_fail e2) (by simp [subL, inS, s_Tokens_fail, s_Table_readName])
    cases h
    exact F2
  · obtain ⟨σ4, e3, h⟩ := xbR_ex h
    have F3 : Fr (s_Table_readName a2) σ σ4 := Fr.call Fr.rf (fr_Tokens_step e3) (by simp [subL, inS, s_Tokens_step, s_Table_readName])
    obtain ⟨r5, -, h⟩ := xbR_ex h
    rcases ite_ex h with ⟨-, h⟩ | ⟨-, h⟩
    · obtain ⟨r6, σ7, e5, h⟩ := xbW_ex h
      have F5 : Fr (s_Table_readName a2) σ σ7 := Fr.call F3 (fr_Tokens_fail e5) (by simp [subL, inS, s_Tokens_fail, s_Table_readName])
      cases h
      exact F5
    · obtain ⟨r8, -, h⟩ := xbR_ex h
      rcases ite_ex h with ⟨-, h⟩ | ⟨-, h⟩
      · obtain ⟨r9, -, h⟩ := xbR_ex h
        rcases ite_ex h with ⟨-, h⟩ | ⟨-, h⟩
        · obtain ⟨-, h⟩ := gu_ex h
          obtain ⟨σ10, e8, h⟩ := xlet_ex h
          have F8 : Fr (s_Table_readName a2) σ σ10 := Fr.up F3 e8 (by simp [inS, s_Table_readName])
          obtain ⟨σ11, e9, h⟩ := xbR_ex h
          have F9 : Fr (s_Table_readName a2) σ σ11 := Fr.call F8 (fr_Tokens_step e9) (by simp [subL, inS, s_Tokens_step, s_Table_readName])
          cases h
          exact F9
        · exact Fr.call F3 (fr_Table_readName_56 h) (subL_rf _)
      · exact Fr.call F3 (fr_Table_readName_56 h) (subL_rf _)
theorem fr_Table_addCoin {p1 : Int} {p2 : Int} {σ : xSt} {r : (xSt)} (h : f_Table_addCoin p1 p2 σ = some r) : Fr s_Table_addCoin σ r := by
  unfold f_Table_addCoin at h
  obtain ⟨r1, -, h⟩ := xbR_ex h
  rcases ite_ex h with ⟨-, h⟩ | ⟨-, h⟩
  · cases h
    exact Fr.rf
  · obtain ⟨-, h⟩ := gu_ex h
    obtain ⟨σ2, e2, h⟩ := xlet_ex h
    have F2 : Fr s_Table_addCoin σ σ2 := Fr.up Fr.rf e2 (rfl)
    obtain ⟨-, h⟩ := gu_ex h
    obtain ⟨σ3, e3, h⟩ := xlet_ex h
    have F3 : Fr s_Table_addCoin σ σ3 := Fr.up F2 e3 (rfl)
    obtain ⟨-, h⟩ := gu_ex h
    obtain ⟨σ4, e4, h⟩ := xlet_ex h
    have F4 : Fr s_Table_addCoin σ σ4 := Fr.up F3 e4 (rfl)
    obtain ⟨-, h⟩ := gu_ex h
    obtain ⟨σ5, e5, h⟩ := xlet_ex h
    have F5 : Fr s_Table_addCoin σ σ5 := Fr.up F4 e5 (rfl)
    obtain ⟨-, h⟩ := gu_ex h
    obtain ⟨σ6, e6, h⟩ := xlet_ex h
    have F6 : Fr s_Table_addCoin σ σ6 := Fr.up F5 e6 (rfl)
    obtain ⟨σ7, e7, h⟩ := xlet_ex h
    have F7 : Fr s_Table_addCoin σ σ7 := Fr.up F6 e7 (rfl)
    cases h
    exact F7
theorem fr_Tokens_pass {p1 : Int} {σ : xSt} {r : (Int × xSt)} (h : f_Tokens_pass p1 σ = some r) : Fr s_Tokens_pass σ r.2 := by
  unfold f_Tokens_pass at h
  obtain ⟨r1, -, h⟩ := xbR_ex h
  rcases ite_ex h with ⟨-, h⟩ | ⟨-, h⟩
  · obtain ⟨r2, σ3, e2, h⟩ := xbW_ex h
    have F2 : Fr s_Tokens_pass σ σ3 := Fr.call Fr.rf (fr_Tokens_fail e2) (rfl)
    cases h
    exact F2
  · obtain ⟨σ4, e3, h⟩ := xbR_ex h
    have F3 : Fr s_Tokens_pass σ σ4 := Fr.call Fr.rf (fr_Tokens_step e3) (rfl)
    cases h
    exact F3
theorem fr_Tokens_holdsNumber_30 {σ : xSt} {r : (Int × xSt)} (h : f_Tokens_holdsNumber_30 σ = some r) : Fr s_Tokens_holdsNumber σ r.2 := by
  unfold f_Tokens_holdsNumber_30 at h
  obtain ⟨r3, σ4, e1, h⟩ := xbW_ex h
  have F1 : Fr s_Tokens_holdsNumber σ σ4 := Fr.call Fr.rf (fr_Tokens_fail e1) (rfl)
  rcases ite_ex h with ⟨-, h⟩ | ⟨-, h⟩
  · cases h
    exact F1
  · cases h
    exact F1
theorem fr_Tokens_holdsNumber {p1 : Int} {p2 : Int} {σ : xSt} {r : (Int × xSt)} (h : f_Tokens_holdsNumber p1 p2 σ = some r) : Fr s_Tokens_holdsNumber σ r.2 := by
  unfold f_Tokens_holdsNumber at h
  rcases ite_ex h with ⟨-, h⟩ | ⟨-, h⟩
  · rcases ite_ex h with ⟨-, h⟩ | ⟨-, h⟩
    · exact Fr.call Fr.rf (fr_Tokens_holdsNumber_30 h) (subL_rf _)
    · rcases ite_ex h with ⟨-, h⟩ | ⟨-, h⟩
      · exact Fr.call Fr.rf (fr_Tokens_holdsNumber_30 h) (subL_rf _)
      · cases h
        exact Fr.rf
  · obtain ⟨r1, σ2, e1, h⟩ := xbW_ex h
    have F1 : Fr s_Tokens_holdsNumber σ σ2 := Fr.call Fr.rf (fr_Tokens_fail e1) (rfl)
    cases h
    exact F1
theorem fr_Table_readCoin {σ : xSt} {r : (Int × xSt)} (h : f_Table_readCoin σ = some r) : Fr s_Table_readCoin σ r.2 := by
  unfold f_Table_readCoin at h
  obtain ⟨r1, σ2, e1, h⟩ := xbW_ex h
  have F1 : Fr s_Table_readCoin σ σ2 := Fr.call Fr.rf (fr_Table_readName e1) (rfl)
  rcases ite_ex h with ⟨-, h⟩ | ⟨-, h⟩
  · cases h
    exact F1
  · obtain ⟨r3, -, h⟩ := xbR_ex h
    rcases ite_ex h with ⟨-, h⟩ | ⟨-, h⟩
    · obtain ⟨r4, σ5, e3, h⟩ := xbW_ex h
      have F3 : Fr s_Table_readCoin σ σ5 := Fr.call F1 (fr_Tokens_holdsNumber e3) (rfl)
      rcases ite_ex h with ⟨-, h⟩ | ⟨-, h⟩
      · cases h
        exact F3
      · obtain ⟨x6, -, h⟩ := xlet_ex h
        obtain ⟨σ7, e4, h⟩ := xbR_ex h
        have F4 : Fr s_Table_readCoin σ σ7 := Fr.call F3 (fr_Tokens_step e4) (rfl)
        obtain ⟨r8, σ9, e5, h⟩ := xbW_ex h
        have F5 : Fr s_Table_readCoin σ σ9 := Fr.call F4 (fr_Tokens_holdsNumber e5) (rfl)
        rcases ite_ex h with ⟨-, h⟩ | ⟨-, h⟩
        · cases h
          exact F5
        · obtain ⟨σ10, e6, h⟩ := xbR_ex h
          have F6 : Fr s_Table_readCoin σ σ10 := Fr.call F5 (fr_Table_addCoin e6) (rfl)
          obtain ⟨σ11, e7, h⟩ := xbR_ex h
          have F7 : Fr s_Table_readCoin σ σ11 := Fr.call F6 (fr_Tokens_step e7) (rfl)
          obtain ⟨r12, σ13, e8, h⟩ := xbW_ex h
          have F8 : Fr s_Table_readCoin σ σ13 := Fr.call F7 (fr_Tokens_pass e8) (rfl)
          cases h
          exact F8
    · rcases ite_ex h with ⟨-, h⟩ | ⟨-, h⟩
      · obtain ⟨σ14, e9, h⟩ := xlet_ex h
        have F9 : Fr s_Table_readCoin σ σ14 := Fr.up F1 e9 (rfl)
        obtain ⟨σ15, e10, h⟩ := xbR_ex h
        have F10 : Fr s_Table_readCoin σ σ15 := Fr.call F9 (fr_Tokens_step e10) (rfl)
        obtain ⟨σ16, e11, h⟩ := xbR_ex h
        have F11 : Fr s_Table_readCoin σ σ16 := Fr.call F10 (fr_Table_addCoin e11) (rfl)
        obtain ⟨r17, σ18, e12, h⟩ := xbW_ex h
        have F12 : Fr s_Table_readCoin σ σ18 := Fr.call F11 (fr_Tokens_pass e12) (rfl)
        cases h
        exact F12
      · obtain ⟨r19, σ20, e13, h⟩ := xbW_ex h
        have F13 : Fr s_Table_readCoin σ σ20 := Fr.call F1 (fr_Tokens_fail e13) (rfl)
        cases h
        exact F13
theorem fr_Table_readWheel_51 {k33 : (Int → Int → xSt → Option (Int × xSt))} {l2 : Int} {l3 : Int} (hk33 : ∀ {z0 : Int} {z1 : Int} {σ : xSt} {r : (Int × xSt)}, k33 z0 z1 σ = some r → Fr s_Table_readWheel σ r.2) {σ : xSt} {r : (Int × xSt)} (h : f_Table_readWheel_51 k33 l2 l3 σ = some r) : Fr s_Table_readWheel σ r.2 := by
  unfold f_Table_readWheel_51 at h
  obtain ⟨r11, σ12, e1, h⟩ := xbW_ex h
  have F1 : Fr s_Table_readWheel σ σ12 := Fr.call Fr.rf (fr_Tokens_holdsNumber e1) (rfl)
  rcases ite_ex h with ⟨-, h⟩ | ⟨-, h⟩
  · cases h
    exact F1
  · rcases ite_ex h with ⟨-, h⟩ | ⟨-, h⟩
    · obtain ⟨-, h⟩ := gu_ex h
      obtain ⟨σ13, e2, h⟩ := xlet_ex h
      have F2 : Fr s_Table_readWheel σ σ13 := Fr.up F1 e2 (rfl)
      obtain ⟨x14, -, h⟩ := xlet_ex h
      obtain ⟨x15, -, h⟩ := xlet_ex h
      obtain ⟨σ16, e3, h⟩ := xbR_ex h
      have F3 : Fr s_Table_readWheel σ σ16 := Fr.call F2 (fr_Tokens_step e3) (rfl)
      exact Fr.call F3 (hk33 h) (rfl)
    · obtain ⟨r17, σ18, e4, h⟩ := xbW_ex h
      have F4 : Fr s_Table_readWheel σ σ18 := Fr.call F1 (fr_Tokens_fail e4) (rfl)
      cases h
      exact F4
theorem fr_Table_readWheel_112 {l2 : Int} {l3 : Int} {σ : xSt} {r : (Int × xSt)} (h : f_Table_readWheel_112 l2 l3 σ = some r) : Fr s_Table_readWheel σ r.2 := by
  unfold f_Table_readWheel_112 at h
  obtain ⟨-, h⟩ := gu_ex h
  obtain ⟨σ5, e1, h⟩ := xlet_ex h
  have F1 : Fr s_Table_readWheel σ σ5 := Fr.up Fr.rf e1 (rfl)
  obtain ⟨-, h⟩ := gu_ex h
  obtain ⟨σ6, e2, h⟩ := xlet_ex h
  have F2 : Fr s_Table_readWheel σ σ6 := Fr.up F1 e2 (rfl)
  obtain ⟨-, h⟩ := gu_ex h
  obtain ⟨σ7, e3, h⟩ := xlet_ex h
  have F3 : Fr s_Table_readWheel σ σ7 := Fr.up F2 e3 (rfl)
  obtain ⟨σ8, e4, h⟩ := xlet_ex h
  have F4 : Fr s_Table_readWheel σ σ8 := Fr.up F3 e4 (rfl)
  obtain ⟨r9, σ10, e5, h⟩ := xbW_ex h
  have F5 : Fr s_Table_readWheel σ σ10 := Fr.call F4 (fr_Tokens_pass e5) (rfl)
  cases h
  exact F5
theorem fr_Table_readWheel_33 : ∀ (n : Nat) {l2 : Int} {l3 : Int} {σ : xSt} {r : (Int × xSt)}, f_Table_readWheel_33  n l2 l3 σ = some r → Fr s_Table_readWheel σ r.2 := by
  intro n
  induction n with
  | zero => exact fun h => nomatch h
  | succ n ih =>
    intro l2 l3 σ r h
    unfold f_Table_readWheel_33 at h
    rcases ite_ex h with ⟨-, h⟩ | ⟨-, h⟩
    · exact Fr.call Fr.rf (fr_Table_readWheel_112 h) (subL_rf _)
    · rcases ite_ex h with ⟨-, h⟩ | ⟨-, h⟩
      · exact Fr.call Fr.rf (fr_Table_readWheel_51 (fun h => ih h) h) (subL_rf _)
      · obtain ⟨r4, -, h⟩ := xbR_ex h
        rcases ite_ex h with ⟨-, h⟩ | ⟨-, h⟩
        · exact Fr.call Fr.rf (fr_Table_readWheel_112 h) (subL_rf _)
        · exact Fr.call Fr.rf (fr_Table_readWheel_51 (fun h => ih h) h) (subL_rf _)
theorem fr_Table_readWheel {σ : xSt} {r : (Int × xSt)} (h : f_Table_readWheel σ = some r) : Fr s_Table_readWheel σ r.2 := by
  unfold f_Table_readWheel at h
  obtain ⟨r1, σ2, e1, h⟩ := xbW_ex h
  have F1 : Fr s_Table_readWheel σ σ2 := Fr.call Fr.rf (fr_Table_readName e1) (rfl)
  rcases ite_ex h with ⟨-, h⟩ | ⟨-, h⟩
  · cases h
    exact F1
  · obtain ⟨r3, -, h⟩ := xbR_ex h
    rcases ite_ex h with ⟨-, h⟩ | ⟨-, h⟩
    · cases h
      exact F1
    · exact Fr.call F1 (fr_Table_readWheel_33 _ h) (subL_rf _)
theorem fr_Table_readEnd_123 {σ : xSt} {r : (Int × xSt)} (h : f_Table_readEnd_123 σ = some r) : Fr s_Table_readEnd σ r.2 := by
  unfold f_Table_readEnd_123 at h
  obtain ⟨σ16, e1, h⟩ := xlet_ex h
  have F1 : Fr s_Table_readEnd σ σ16 := Fr.up Fr.rf e1 (rfl)
  obtain ⟨r17, σ18, e2, h⟩ := xbW_ex h
  have F2 : Fr s_Table_readEnd σ σ18 := Fr.call F1 (fr_Tokens_pass e2) (rfl)
  cases h
  exact F2
theorem fr_Table_readEnd {σ : xSt} {r : (Int × xSt)} (h : f_Table_readEnd σ = some r) : Fr s_Table_readEnd σ r.2 := by
  unfold f_Table_readEnd at h
  obtain ⟨r1, σ2, e1, h⟩ := xbW_ex h
  have F1 : Fr s_Table_readEnd σ σ2 := Fr.call Fr.rf (fr_Table_readName e1) (rfl)
  rcases ite_ex h with ⟨-, h⟩ | ⟨-, h⟩
  · cases h
    exact F1
  · obtain ⟨r3, -, h⟩ := xbR_ex h
    rcases ite_ex h with ⟨-, h⟩ | ⟨-, h⟩
    · cases h
      exact F1
    · obtain ⟨-, h⟩ := gu_ex h
      obtain ⟨σ4, e3, h⟩ := xlet_ex h
      have F3 : Fr s_Table_readEnd σ σ4 := Fr.up F1 e3 (rfl)
      obtain ⟨-, h⟩ := gu_ex h
      obtain ⟨σ5, e4, h⟩ := xlet_ex h
      have F4 : Fr s_Table_readEnd σ σ5 := Fr.up F3 e4 (rfl)
      obtain ⟨r6, -, h⟩ := xbR_ex h
      rcases ite_ex h with ⟨-, h⟩ | ⟨-, h⟩
      · obtain ⟨r7, σ8, e6, h⟩ := xbW_ex h
        have F6 : Fr s_Table_readEnd σ σ8 := Fr.call F4 (fr_Tokens_holdsNumber e6) (rfl)
        rcases ite_ex h with ⟨-, h⟩ | ⟨-, h⟩
        · cases h
          exact F6
        · obtain ⟨x9, -, h⟩ := xlet_ex h
          obtain ⟨σ10, e7, h⟩ := xbR_ex h
          have F7 : Fr s_Table_readEnd σ σ10 := Fr.call F6 (fr_Tokens_step e7) (rfl)
          obtain ⟨r11, σ12, e8, h⟩ := xbW_ex h
          have F8 : Fr s_Table_readEnd σ σ12 := Fr.call F7 (fr_Tokens_holdsNumber e8) (rfl)
          rcases ite_ex h with ⟨-, h⟩ | ⟨-, h⟩
          · cases h
            exact F8
          · obtain ⟨-, h⟩ := gu_ex h
            obtain ⟨σ13, e9, h⟩ := xlet_ex h
            have F9 : Fr s_Table_readEnd σ σ13 := Fr.up F8 e9 (rfl)
            obtain ⟨-, h⟩ := gu_ex h
            obtain ⟨σ14, e10, h⟩ := xlet_ex h
            have F10 : Fr s_Table_readEnd σ σ14 := Fr.up F9 e10 (rfl)
            obtain ⟨σ15, e11, h⟩ := xbR_ex h
            have F11 : Fr s_Table_readEnd σ σ15 := Fr.call F10 (fr_Tokens_step e11) (rfl)
            exact Fr.call F11 (fr_Table_readEnd_123 h) (subL_rf _)
      · exact Fr.call F4 (fr_Table_readEnd_123 h) (subL_rf _)
theorem fr_Table_readLine {σ : xSt} {r : (Int × xSt)} (h : f_Table_readLine σ = some r) : Fr s_Table_readLine σ r.2 := by
  unfold f_Table_readLine at h
  obtain ⟨r1, -, h⟩ := xbR_ex h
  rcases ite_ex h with ⟨-, h⟩ | ⟨-, h⟩
  · obtain ⟨r2, -, h⟩ := xbR_ex h
    rcases ite_ex h with ⟨-, h⟩ | ⟨-, h⟩
    · obtain ⟨r3, -, h⟩ := xbR_ex h
      rcases ite_ex h with ⟨-, h⟩ | ⟨-, h⟩
      · obtain ⟨r4, σ5, e4, h⟩ := xbW_ex h
        have F4 : Fr s_Table_readLine σ σ5 := Fr.call Fr.rf (fr_Tokens_fail e4) (rfl)
        cases h
        exact F4
      · obtain ⟨r6, σ7, e5, h⟩ := xbW_ex h
        have F5 : Fr s_Table_readLine σ σ7 := Fr.call Fr.rf (fr_Table_readEnd e5) (rfl)
        cases h
        exact F5
    · obtain ⟨r8, σ9, e6, h⟩ := xbW_ex h
      have F6 : Fr s_Table_readLine σ σ9 := Fr.call Fr.rf (fr_Table_readWheel e6) (rfl)
      cases h
      exact F6
  · obtain ⟨r10, σ11, e7, h⟩ := xbW_ex h
    have F7 : Fr s_Table_readLine σ σ11 := Fr.call Fr.rf (fr_Table_readCoin e7) (rfl)
    cases h
    exact F7
theorem fr_Tokens_isDone {σ : xSt} {r : (Int × xSt)} (h : f_Tokens_isDone σ = some r) : Fr s_Tokens_isDone σ r.2 := by
  unfold f_Tokens_isDone at h
  rcases ite_ex h with ⟨-, h⟩ | ⟨-, h⟩
  · cases h
    exact Fr.rf
  · obtain ⟨r1, σ2, e1, h⟩ := xbW_ex h
    have F1 : Fr s_Tokens_isDone σ σ2 := Fr.call Fr.rf (fr_Tokens_fail e1) (rfl)
    rcases ite_ex h with ⟨-, h⟩ | ⟨-, h⟩
    · cases h
      exact F1
    · cases h
      exact F1
theorem fr_Table_read_47 {σ : xSt} {r : (Int × xSt)} (h : f_Table_read_47 σ = some r) : Fr s_Table_read σ r.2 := by
  unfold f_Table_read_47 at h
  obtain ⟨r8, σ9, e1, h⟩ := xbW_ex h
  have F1 : Fr s_Table_read σ σ9 := Fr.call Fr.rf (fr_Tokens_isDone e1) (rfl)
  cases h
  exact F1
theorem fr_Table_read_17 : ∀ (n : Nat) {l2 : Int} {σ : xSt} {r : (Int × xSt)}, f_Table_read_17  n l2 σ = some r → Fr s_Table_read σ r.2 := by
  intro n
  induction n with
  | zero => exact fun h => nomatch h
  | succ n ih =>
    intro l2 σ r h
    unfold f_Table_read_17 at h
    rcases ite_ex h with ⟨-, h⟩ | ⟨-, h⟩
    · obtain ⟨r4, -, h⟩ := xbR_ex h
      rcases ite_ex h with ⟨-, h⟩ | ⟨-, h⟩
      · obtain ⟨r5, σ6, e2, h⟩ := xbW_ex h
        have F2 : Fr s_Table_read σ σ6 := Fr.call Fr.rf (fr_Table_readLine e2) (rfl)
        rcases ite_ex h with ⟨-, h⟩ | ⟨-, h⟩
        · cases h
          exact F2
        · obtain ⟨x7, -, h⟩ := xlet_ex h
          exact Fr.call F2 (ih h) (subL_rf _)
      · exact Fr.call Fr.rf (fr_Table_read_47 h) (subL_rf _)
    · exact Fr.call Fr.rf (fr_Table_read_47 h) (subL_rf _)
theorem fr_Table_read {σ : xSt} {r : (Int × xSt)} (h : f_Table_read σ = some r) : Fr s_Table_read σ r.2 := by
  unfold f_Table_read at h
  obtain ⟨σ1, e1, h⟩ := xlet_ex h
  have F1 : Fr s_Table_read σ σ1 := Fr.up Fr.rf e1 (rfl)
  obtain ⟨σ2, e2, h⟩ := xlet_ex h
  have F2 : Fr s_Table_read σ σ2 := Fr.up F1 e2 (rfl)
  obtain ⟨σ3, e3, h⟩ := xlet_ex h
  have F3 : Fr s_Table_read σ σ3 := Fr.up F2 e3 (rfl)
  exact Fr.call F3 (fr_Table_read_17 _ h) (subL_rf _)
theorem fr_Table_copyFrom_121 {a0 : Nat} {a1 : Nat} : ∀ (n : Nat) {l2 : Int} {σ : xSt} {r : (xSt)}, f_Table_copyFrom_121 a0 a1 n l2 σ = some r → Fr (s_Table_copyFrom a0 a1) σ r := by
  intro n
  induction n with
  | zero => exact fun h => nomatch h
  | succ n ih =>
    intro l2 σ r h
    unfold f_Table_copyFrom_121 at h
    rcases ite_ex h with ⟨-, h⟩ | ⟨-, h⟩
    · obtain ⟨-, h⟩ := gu_ex h
      obtain ⟨-, h⟩ := gu_ex h
      obtain ⟨σ12, e1, h⟩ := xlet_ex h
      have F1 : Fr (s_Table_copyFrom a0 a1) σ σ12 := Fr.up Fr.rf e1 (by simp [inS, s_Table_copyFrom])
      obtain ⟨-, h⟩ := gu_ex h
      obtain ⟨-, h⟩ := gu_ex h
      obtain ⟨σ13, e2, h⟩ := xlet_ex h
      have F2 : Fr (s_Table_copyFrom a0 a1) σ σ13 := Fr.up F1 e2 (by simp [inS, s_Table_copyFrom])
      obtain ⟨-, h⟩ := gu_ex h
      obtain ⟨-, h⟩ := gu_ex h
      obtain ⟨σ14, e3, h⟩ := xlet_ex h
      have F3 : Fr (s_Table_copyFrom a0 a1) σ σ14 := Fr.up F2 e3 (by simp [inS, s_Table_copyFrom])
      obtain ⟨x15, -, h⟩ := xlet_ex h
      exact Fr.call F3 (ih h) (subL_rf _)
    · cases h
      exact Fr.rf
theorem fr_Table_copyFrom_95 {a0 : Nat} {a1 : Nat} : ∀ (n : Nat) {l2 : Int} {σ : xSt} {r : (xSt)}, f_Table_copyFrom_95 a0 a1 n l2 σ = some r → Fr (s_Table_copyFrom a0 a1) σ r := by
  intro n
  induction n with
  | zero => exact fun h => nomatch h
  | succ n ih =>
    intro l2 σ r h
    unfold f_Table_copyFrom_95 at h
    rcases ite_ex h with ⟨-, h⟩ | ⟨-, h⟩
    · obtain ⟨-, h⟩ := gu_ex h
      obtain ⟨-, h⟩ := gu_ex h
      obtain ⟨σ10, e1, h⟩ := xlet_ex h
      have F1 : Fr (s_Table_copyFrom a0 a1) σ σ10 := Fr.up Fr.rf e1 (by simp [inS, s_Table_copyFrom])
      obtain ⟨x11, -, h⟩ := xlet_ex h
      exact Fr.call F1 (ih h) (subL_rf _)
    · exact Fr.call Fr.rf (fr_Table_copyFrom_121 _ h) (subL_rf _)
theorem fr_Table_copyFrom_34 {a0 : Nat} {a1 : Nat} : ∀ (n : Nat) {l2 : Int} {σ : xSt} {r : (xSt)}, f_Table_copyFrom_34 a0 a1 n l2 σ = some r → Fr (s_Table_copyFrom a0 a1) σ r := by
  intro n
  induction n with
  | zero => exact fun h => nomatch h
  | succ n ih =>
    intro l2 σ r h
    unfold f_Table_copyFrom_34 at h
    rcases ite_ex h with ⟨-, h⟩ | ⟨-, h⟩
    · obtain ⟨-, h⟩ := gu_ex h
      obtain ⟨-, h⟩ := gu_ex h
      obtain ⟨σ5, e1, h⟩ := xlet_ex h
      have F1 : Fr (s_Table_copyFrom a0 a1) σ σ5 := Fr.up Fr.rf e1 (by simp [inS, s_Table_copyFrom])
      obtain ⟨-, h⟩ := gu_ex h
      obtain ⟨-, h⟩ := gu_ex h
      obtain ⟨σ6, e2, h⟩ := xlet_ex h
      have F2 : Fr (s_Table_copyFrom a0 a1) σ σ6 := Fr.up F1 e2 (by simp [inS, s_Table_copyFrom])
      obtain ⟨-, h⟩ := gu_ex h
      obtain ⟨-, h⟩ := gu_ex h
      obtain ⟨σ7, e3, h⟩ := xlet_ex h
      have F3 : Fr (s_Table_copyFrom a0 a1) σ σ7 := Fr.up F2 e3 (by simp [inS, s_Table_copyFrom])
      obtain ⟨-, h⟩ := gu_ex h
      obtain ⟨-, h⟩ := gu_ex h
      obtain ⟨σ8, e4, h⟩ := xlet_ex h
      have F4 : Fr (s_Table_copyFrom a0 a1) σ σ8 := Fr.up F3 e4 (by simp [inS, s_Table_copyFrom])
      obtain ⟨x9, -, h⟩ := xlet_ex h
      exact Fr.call F4 (ih h) (subL_rf _)
    · exact Fr.call Fr.rf (fr_Table_copyFrom_95 _ h) (subL_rf _)
theorem fr_Table_copyFrom {a0 : Nat} {a1 : Nat} {σ : xSt} {r : (xSt)} (h : f_Table_copyFrom a0 a1 σ = some r) : Fr (s_Table_copyFrom a0 a1) σ r := by
  unfold f_Table_copyFrom at h
  obtain ⟨σ1, e1, h⟩ := xlet_ex h
  have F1 : Fr (s_Table_copyFrom a0 a1) σ σ1 := Fr.up Fr.rf e1 (by simp [inS, s_Table_copyFrom])
  obtain ⟨σ2, e2, h⟩ := xlet_ex h
  have F2 : Fr (s_Table_copyFrom a0 a1) σ σ2 := Fr.up F1 e2 (by simp [inS, s_Table_copyFrom])
  obtain ⟨σ3, e3, h⟩ := xlet_ex h
  have F3 : Fr (s_Table_copyFrom a0 a1) σ σ3 := Fr.up F2 e3 (by simp [inS, s_Table_copyFrom])
  obtain ⟨σ4, e4, h⟩ := xlet_ex h
  have F4 : Fr (s_Table_copyFrom a0 a1) σ σ4 := Fr.up F3 e4 (by simp [inS, s_Table_copyFrom])
  exact Fr.call F4 (fr_Table_copyFrom_34 _ h) (subL_rf _)
theorem fr_Way_clear {a0 : Nat} {σ : xSt} {r : (xSt)} (h : f_Way_clear a0 σ = some r) : Fr (s_Way_clear a0) σ r := by
  unfold f_Way_clear at h
  obtain ⟨σ1, e1, h⟩ := xlet_ex h
  have F1 : Fr (s_Way_clear a0) σ σ1 := Fr.up Fr.rf e1 (by simp [inS, s_Way_clear])
  obtain ⟨σ2, e2, h⟩ := xlet_ex h
  have F2 : Fr (s_Way_clear a0) σ σ2 := Fr.up F1 e2 (by simp [inS, s_Way_clear])
  cases h
  exact F2
theorem fr_Sentence_clear {a0 : Nat} {σ : xSt} {r : (xSt)} (h : f_Sentence_clear a0 σ = some r) : Fr (s_Sentence_clear a0) σ r := by
  unfold f_Sentence_clear at h
  obtain ⟨σ1, e1, h⟩ := xlet_ex h
  have F1 : Fr (s_Sentence_clear a0) σ σ1 := Fr.up Fr.rf e1 (by simp [inS, s_Sentence_clear])
  obtain ⟨σ2, e2, h⟩ := xlet_ex h
  have F2 : Fr (s_Sentence_clear a0) σ σ2 := Fr.up F1 e2 (by simp [inS, s_Sentence_clear])
  cases h
  exact F2
theorem fr_X_table {σ : xSt} {r : (Int × xSt)} (h : f_X_table σ = some r) : Fr s_X_table σ r.2 := by
  unfold f_X_table at h
  obtain ⟨r1, σ2, e1, h⟩ := xbW_ex h
  have F1 : Fr s_X_table σ σ2 := Fr.call Fr.rf (fr_X_takeTape e1) (rfl)
  obtain ⟨σ3, e2, h⟩ := xbR_ex h
  have F2 : Fr s_X_table σ σ3 := Fr.call F1 (fr_Tokens_begin e2) (rfl)
  obtain ⟨r4, σ5, e3, h⟩ := xbW_ex h
  have F3 : Fr s_X_table σ σ5 := Fr.call F2 (fr_Table_read e3) (rfl)
  obtain ⟨σ6, e4, h⟩ := xlet_ex h
  have F4 : Fr s_X_table σ σ6 := Fr.up F3 e4 (rfl)
  rcases ite_ex h with ⟨-, h⟩ | ⟨-, h⟩
  · cases h
    exact F4
  · obtain ⟨σ7, e5, h⟩ := xlet_ex h
    have F5 : Fr s_X_table σ σ7 := Fr.up F4 e5 (rfl)
    obtain ⟨σ8, e6, h⟩ := xlet_ex h
    have F6 : Fr s_X_table σ σ8 := Fr.up F5 e6 (rfl)
    obtain ⟨σ9, e7, h⟩ := xbR_ex h
    have F7 : Fr s_X_table σ σ9 := Fr.call F6 (fr_Table_copyFrom e7) (rfl)
    obtain ⟨σ10, e8, h⟩ := xbR_ex h
    have F8 : Fr s_X_table σ σ10 := Fr.call F7 (fr_Way_clear e8) (rfl)
    obtain ⟨σ11, e9, h⟩ := xbR_ex h
    have F9 : Fr s_X_table σ σ11 := Fr.call F8 (fr_Sentence_clear e9) (rfl)
    cases h
    exact F9
theorem fr_X_thing {p1 : Int} {p2 : Int} {σ : xSt} {r : (Option Int × xSt)} (h : f_X_thing p1 p2 σ = some r) : Fr s_X_thing σ r.2 := by
  unfold f_X_thing at h
  obtain ⟨r1, -, h⟩ := xbR_ex h
  rcases ite_ex h with ⟨-, h⟩ | ⟨-, h⟩
  · cases h
    exact Fr.rf
  · obtain ⟨r2, -, h⟩ := xbR_ex h
    rcases ite_ex h with ⟨-, h⟩ | ⟨-, h⟩
    · cases h
      exact Fr.rf
    · rcases ite_ex h with ⟨-, h⟩ | ⟨-, h⟩
      · obtain ⟨r3, -, h⟩ := xbR_ex h
        cases h
        exact Fr.rf
      · rcases ite_ex h with ⟨-, h⟩ | ⟨-, h⟩
        · obtain ⟨r4, -, h⟩ := xbR_ex h
          cases h
          exact Fr.rf
        · rcases ite_ex h with ⟨-, h⟩ | ⟨-, h⟩
          · cases h
            exact Fr.rf
          · cases h
            exact Fr.rf
theorem fr_Way_add_64 {a0 : Nat} : ∀ (n : Nat) {l3 : Int} {l4 : Int} {l5 : Int} {l6 : Int} {σ : xSt} {r : (Int × xSt)}, f_Way_add_64 a0 n l3 l4 l5 l6 σ = some r → Fr (s_Way_add a0) σ r.2 := by
  intro n
  induction n with
  | zero => exact fun h => nomatch h
  | succ n ih =>
    intro l3 l4 l5 l6 σ r h
    unfold f_Way_add_64 at h
    rcases ite_ex h with ⟨-, h⟩ | ⟨-, h⟩
    · obtain ⟨-, h⟩ := gu_ex h
      obtain ⟨σ8, e1, h⟩ := xlet_ex h
      have F1 : Fr (s_Way_add a0) σ σ8 := Fr.up Fr.rf e1 (by simp [inS, s_Way_add])
      obtain ⟨x9, -, h⟩ := xlet_ex h
      exact Fr.call F1 (ih h) (subL_rf _)
    · obtain ⟨r10, -, h⟩ := xbR_ex h
      rcases ite_ex h with ⟨-, h⟩ | ⟨-, h⟩
      · cases h
        exact Fr.rf
      · obtain ⟨r11, -, h⟩ := xbR_ex h
        rcases ite_ex h with ⟨-, h⟩ | ⟨-, h⟩
        · cases h
          exact Fr.rf
        · obtain ⟨-, h⟩ := gu_ex h
          obtain ⟨σ12, e4, h⟩ := xlet_ex h
          have F4 : Fr (s_Way_add a0) σ σ12 := Fr.up Fr.rf e4 (by simp [inS, s_Way_add])
          cases h
          exact F4
theorem fr_Way_add {a0 : Nat} {p1 : Int} {p2 : Int} {p3 : Int} {p4 : Int} {σ : xSt} {r : (Int × xSt)} (h : f_Way_add a0 p1 p2 p3 p4 σ = some r) : Fr (s_Way_add a0) σ r.2 := by
  unfold f_Way_add at h
  obtain ⟨x1, -, h⟩ := xlet_ex h
  obtain ⟨r2, -, h⟩ := xbR_ex h
  rcases ite_ex h with ⟨-, h⟩ | ⟨-, h⟩
  · cases h
    exact Fr.rf
  · obtain ⟨σ3, e2, h⟩ := xlet_ex h
    have F2 : Fr (s_Way_add a0) σ σ3 := Fr.up Fr.rf e2 (by simp [inS, s_Way_add])
    obtain ⟨-, h⟩ := gu_ex h
    obtain ⟨σ4, e3, h⟩ := xlet_ex h
    have F3 : Fr (s_Way_add a0) σ σ4 := Fr.up F2 e3 (by simp [inS, s_Way_add])
    obtain ⟨-, h⟩ := gu_ex h
    obtain ⟨σ5, e4, h⟩ := xlet_ex h
    have F4 : Fr (s_Way_add a0) σ σ5 := Fr.up F3 e4 (by simp [inS, s_Way_add])
    obtain ⟨-, h⟩ := gu_ex h
    obtain ⟨σ6, e5, h⟩ := xlet_ex h
    have F5 : Fr (s_Way_add a0) σ σ6 := Fr.up F4 e5 (by simp [inS, s_Way_add])
    obtain ⟨-, h⟩ := gu_ex h
    obtain ⟨σ7, e6, h⟩ := xlet_ex h
    have F6 : Fr (s_Way_add a0) σ σ7 := Fr.up F5 e6 (by simp [inS, s_Way_add])
    exact Fr.call F6 (fr_Way_add_64 _ h) (subL_rf _)
theorem fr_Way_readNode_108 {q_Way_readNode : (Int → Int → Int → xSt → Option (Int × xSt))} {q_Way_readSides : (Int → Int → Int → xSt → Option (Int × xSt))} (hq_Way_readNode : ∀ {z0 : Int} {z1 : Int} {z2 : Int} {σ : xSt} {r : (Int × xSt)}, q_Way_readNode z0 z1 z2 σ = some r → Fr s_Way_readNode σ r.2) (hq_Way_readSides : ∀ {z0 : Int} {z1 : Int} {z2 : Int} {σ : xSt} {r : (Int × xSt)}, q_Way_readSides z0 z1 z2 σ = some r → Fr s_Way_readNode σ r.2) {σ : xSt} {r : (Int × xSt)} (h : f_Way_readNode_108 q_Way_readNode q_Way_readSides σ = some r) : Fr s_Way_readNode σ r.2 := by
  unfold f_Way_readNode_108 at h
  obtain ⟨r18, σ19, e1, h⟩ := xbW_ex h
  have F1 : Fr s_Way_readNode σ σ19 := Fr.call Fr.rf (fr_Tokens_fail e1) (rfl)
  cases h
  exact F1
theorem fr_Way_readNode_135 {q_Way_readNode : (Int → Int → Int → xSt → Option (Int × xSt))} {q_Way_readSides : (Int → Int → Int → xSt → Option (Int × xSt))} {l4 : Int} {l5 : Int} {l7 : Int} {s0 : Int} (hq_Way_readNode : ∀ {z0 : Int} {z1 : Int} {z2 : Int} {σ : xSt} {r : (Int × xSt)}, q_Way_readNode z0 z1 z2 σ = some r → Fr s_Way_readNode σ r.2) (hq_Way_readSides : ∀ {z0 : Int} {z1 : Int} {z2 : Int} {σ : xSt} {r : (Int × xSt)}, q_Way_readSides z0 z1 z2 σ = some r → Fr s_Way_readNode σ r.2) {σ : xSt} {r : (Int × xSt)} (h : f_Way_readNode_135 q_Way_readNode q_Way_readSides l4 l5 l7 s0 σ = some r) : Fr s_Way_readNode σ r.2 := by
  unfold f_Way_readNode_135 at h
  obtain ⟨r20, σ21, e1, h⟩ := xbW_ex h
  have F1 : Fr s_Way_readNode σ σ21 := Fr.call Fr.rf (fr_Way_add e1) (rfl)
  cases h
  exact F1
theorem fr_Way_readNode_114 {q_Way_readNode : (Int → Int → Int → xSt → Option (Int × xSt))} {q_Way_readSides : (Int → Int → Int → xSt → Option (Int × xSt))} {l3 : Int} {l4 : Int} {l5 : Int} {l6 : Int} {l7 : Int} {l8 : Int} (hq_Way_readNode : ∀ {z0 : Int} {z1 : Int} {z2 : Int} {σ : xSt} {r : (Int × xSt)}, q_Way_readNode z0 z1 z2 σ = some r → Fr s_Way_readNode σ r.2) (hq_Way_readSides : ∀ {z0 : Int} {z1 : Int} {z2 : Int} {σ : xSt} {r : (Int × xSt)}, q_Way_readSides z0 z1 z2 σ = some r → Fr s_Way_readNode σ r.2) {σ : xSt} {r : (Int × xSt)} (h : f_Way_readNode_114 q_Way_readNode q_Way_readSides l3 l4 l5 l6 l7 l8 σ = some r) : Fr s_Way_readNode σ r.2 := by
  unfold f_Way_readNode_114 at h
  obtain ⟨σ9, e1, h⟩ := xbR_ex h
  have F1 : Fr s_Way_readNode σ σ9 := Fr.call Fr.rf (fr_Tokens_step e1) (rfl)
  rcases ite_ex h with ⟨-, h⟩ | ⟨-, h⟩
  · rcases ite_ex h with ⟨-, h⟩ | ⟨-, h⟩
    · exact Fr.call F1 (fr_Way_readNode_135 hq_Way_readNode hq_Way_readSides h) (subL_rf _)
    · exact Fr.call F1 (fr_Way_readNode_135 hq_Way_readNode hq_Way_readSides h) (subL_rf _)
  · obtain ⟨σ10, e2, h⟩ := xlet_ex h
    have F2 : Fr s_Way_readNode σ σ10 := Fr.up F1 e2 (rfl)
    obtain ⟨r11, σ12, e3, h⟩ := xbW_ex h
    have F3 : Fr s_Way_readNode σ σ12 := Fr.call F2 (fr_Way_add e3) (rfl)
    obtain ⟨r13, σ14, e4, h⟩ := xbW_ex h
    have F4 : Fr s_Way_readNode σ σ14 := Fr.call F3 (fr_Tokens_pass e4) (rfl)
    rcases ite_ex h with ⟨-, h⟩ | ⟨-, h⟩
    · cases h
      exact F4
    · obtain ⟨r15, -, h⟩ := xbR_ex h
      obtain ⟨r16, σ17, e6, h⟩ := xbW_ex h
      have F6 : Fr s_Way_readNode σ σ17 := Fr.call F4 (hq_Way_readSides e6) (rfl)
      rcases ite_ex h with ⟨-, h⟩ | ⟨-, h⟩
      · cases h
        exact F6
      · cases h
        exact F6
theorem fr_Way_readNode_87 {q_Way_readNode : (Int → Int → Int → xSt → Option (Int × xSt))} {q_Way_readSides : (Int → Int → Int → xSt → Option (Int × xSt))} {l3 : Int} {l4 : Int} {l5 : Int} {l6 : Int} {l7 : Int} {l8 : Int} (hq_Way_readNode : ∀ {z0 : Int} {z1 : Int} {z2 : Int} {σ : xSt} {r : (Int × xSt)}, q_Way_readNode z0 z1 z2 σ = some r → Fr s_Way_readNode σ r.2) (hq_Way_readSides : ∀ {z0 : Int} {z1 : Int} {z2 : Int} {σ : xSt} {r : (Int × xSt)}, q_Way_readSides z0 z1 z2 σ = some r → Fr s_Way_readNode σ r.2) {σ : xSt} {r : (Int × xSt)} (h : f_Way_readNode_87 q_Way_readNode q_Way_readSides l3 l4 l5 l6 l7 l8 σ = some r) : Fr s_Way_readNode σ r.2 := by
  unfold f_Way_readNode_87 at h
  rcases ite_ex h with ⟨-, h⟩ | ⟨-, h⟩
  · rcases ite_ex h with ⟨-, h⟩ | ⟨-, h⟩
    · exact Fr.call Fr.rf (fr_Way_readNode_114 hq_Way_readNode hq_Way_readSides h) (subL_rf _)
    · rcases ite_ex h with ⟨-, h⟩ | ⟨-, h⟩
      · exact Fr.call Fr.rf (fr_Way_readNode_114 hq_Way_readNode hq_Way_readSides h) (subL_rf _)
      · exact Fr.call Fr.rf (fr_Way_readNode_108 hq_Way_readNode hq_Way_readSides h) (subL_rf _)
  · exact Fr.call Fr.rf (fr_Way_readNode_108 hq_Way_readNode hq_Way_readSides h) (subL_rf _)
theorem fr_Way_readNode_62 {q_Way_readNode : (Int → Int → Int → xSt → Option (Int × xSt))} {q_Way_readSides : (Int → Int → Int → xSt → Option (Int × xSt))} {l3 : Int} {l4 : Int} {l5 : Int} {l6 : Int} {l7 : Int} {s0 : Int} (hq_Way_readNode : ∀ {z0 : Int} {z1 : Int} {z2 : Int} {σ : xSt} {r : (Int × xSt)}, q_Way_readNode z0 z1 z2 σ = some r → Fr s_Way_readNode σ r.2) (hq_Way_readSides : ∀ {z0 : Int} {z1 : Int} {z2 : Int} {σ : xSt} {r : (Int × xSt)}, q_Way_readSides z0 z1 z2 σ = some r → Fr s_Way_readNode σ r.2) {σ : xSt} {r : (Int × xSt)} (h : f_Way_readNode_62 q_Way_readNode q_Way_readSides l3 l4 l5 l6 l7 s0 σ = some r) : Fr s_Way_readNode σ r.2 := by
  unfold f_Way_readNode_62 at h
  rcases ite_ex h with ⟨-, h⟩ | ⟨-, h⟩
  · rcases ite_ex h with ⟨-, h⟩ | ⟨-, h⟩
    · rcases ite_ex h with ⟨-, h⟩ | ⟨-, h⟩
      · obtain ⟨r7, σ8, e1, h⟩ := xbW_ex h
        have F1 : Fr s_Way_readNode σ σ8 := Fr.call Fr.rf (fr_Tokens_fail e1) (rfl)
        cases h
        exact F1
      · exact Fr.call Fr.rf (fr_Way_readNode_87 hq_Way_readNode hq_Way_readSides h) (subL_rf _)
    · exact Fr.call Fr.rf (fr_Way_readNode_87 hq_Way_readNode hq_Way_readSides h) (subL_rf _)
  · exact Fr.call Fr.rf (fr_Way_readNode_87 hq_Way_readNode hq_Way_readSides h) (subL_rf _)
theorem fr_Way_readNode_43 {q_Way_readNode : (Int → Int → Int → xSt → Option (Int × xSt))} {q_Way_readSides : (Int → Int → Int → xSt → Option (Int × xSt))} {l3 : Int} {l4 : Int} {l5 : Int} {l6 : Int} {s0 : Int} (hq_Way_readNode : ∀ {z0 : Int} {z1 : Int} {z2 : Int} {σ : xSt} {r : (Int × xSt)}, q_Way_readNode z0 z1 z2 σ = some r → Fr s_Way_readNode σ r.2) (hq_Way_readSides : ∀ {z0 : Int} {z1 : Int} {z2 : Int} {σ : xSt} {r : (Int × xSt)}, q_Way_readSides z0 z1 z2 σ = some r → Fr s_Way_readNode σ r.2) {σ : xSt} {r : (Int × xSt)} (h : f_Way_readNode_43 q_Way_readNode q_Way_readSides l3 l4 l5 l6 s0 σ = some r) : Fr s_Way_readNode σ r.2 := by
  unfold f_Way_readNode_43 at h
  rcases ite_ex h with ⟨-, h⟩ | ⟨-, h⟩
  · obtain ⟨r6, -, h⟩ := xbR_ex h
    exact Fr.call Fr.rf (fr_Way_readNode_62 hq_Way_readNode hq_Way_readSides h) (subL_rf _)
  · exact Fr.call Fr.rf (fr_Way_readNode_62 hq_Way_readNode hq_Way_readSides h) (subL_rf _)
theorem fr_Way_readNode_26 {q_Way_readNode : (Int → Int → Int → xSt → Option (Int × xSt))} {q_Way_readSides : (Int → Int → Int → xSt → Option (Int × xSt))} {l3 : Int} {l4 : Int} {l5 : Int} {l6 : Int} (hq_Way_readNode : ∀ {z0 : Int} {z1 : Int} {z2 : Int} {σ : xSt} {r : (Int × xSt)}, q_Way_readNode z0 z1 z2 σ = some r → Fr s_Way_readNode σ r.2) (hq_Way_readSides : ∀ {z0 : Int} {z1 : Int} {z2 : Int} {σ : xSt} {r : (Int × xSt)}, q_Way_readSides z0 z1 z2 σ = some r → Fr s_Way_readNode σ r.2) {σ : xSt} {r : (Int × xSt)} (h : f_Way_readNode_26 q_Way_readNode q_Way_readSides l3 l4 l5 l6 σ = some r) : Fr s_Way_readNode σ r.2 := by
  unfold f_Way_readNode_26 at h
  rcases ite_ex h with ⟨-, h⟩ | ⟨-, h⟩
  · obtain ⟨r5, -, h⟩ := xbR_ex h
    exact Fr.call Fr.rf (fr_Way_readNode_43 hq_Way_readNode hq_Way_readSides h) (subL_rf _)
  · exact Fr.call Fr.rf (fr_Way_readNode_43 hq_Way_readNode hq_Way_readSides h) (subL_rf _)
theorem fr0_Way_readNode {q_Way_readNode : (Int → Int → Int → xSt → Option (Int × xSt))} {q_Way_readSides : (Int → Int → Int → xSt → Option (Int × xSt))} {p3 : Int} {p4 : Int} {p5 : Int} (hq_Way_readNode : ∀ {z0 : Int} {z1 : Int} {z2 : Int} {σ : xSt} {r : (Int × xSt)}, q_Way_readNode z0 z1 z2 σ = some r → Fr s_Way_readNode σ r.2) (hq_Way_readSides : ∀ {z0 : Int} {z1 : Int} {z2 : Int} {σ : xSt} {r : (Int × xSt)}, q_Way_readSides z0 z1 z2 σ = some r → Fr s_Way_readNode σ r.2) {σ : xSt} {r : (Int × xSt)} (h : f0_Way_readNode q_Way_readNode q_Way_readSides p3 p4 p5 σ = some r) : Fr s_Way_readNode σ r.2 := by
  unfold f0_Way_readNode at h
  obtain ⟨r1, -, h⟩ := xbR_ex h
  rcases ite_ex h with ⟨-, h⟩ | ⟨-, h⟩
  · obtain ⟨r2, -, h⟩ := xbR_ex h
    rcases ite_ex h with ⟨-, h⟩ | ⟨-, h⟩
    · obtain ⟨r3, σ4, e3, h⟩ := xbW_ex h
      have F3 : Fr s_Way_readNode σ σ4 := Fr.call Fr.rf (fr_Tokens_fail e3) (rfl)
      cases h
      exact F3
    · exact Fr.call Fr.rf (fr_Way_readNode_26 hq_Way_readNode hq_Way_readSides h) (subL_rf _)
  · exact Fr.call Fr.rf (fr_Way_readNode_26 hq_Way_readNode hq_Way_readSides h) (subL_rf _)
theorem fr_Way_readSides_70 {q_Way_readNode : (Int → Int → Int → xSt → Option (Int × xSt))} {q_Way_readSides : (Int → Int → Int → xSt → Option (Int × xSt))} {k3 : (Int → Int → Int → Int → xSt → Option (Int × xSt))} {l3 : Int} {l4 : Int} {l5 : Int} {l6 : Int} {s0 : Int} {s1 : Int} (hq_Way_readNode : ∀ {z0 : Int} {z1 : Int} {z2 : Int} {σ : xSt} {r : (Int × xSt)}, q_Way_readNode z0 z1 z2 σ = some r → Fr s_Way_readNode σ r.2) (hq_Way_readSides : ∀ {z0 : Int} {z1 : Int} {z2 : Int} {σ : xSt} {r : (Int × xSt)}, q_Way_readSides z0 z1 z2 σ = some r → Fr s_Way_readNode σ r.2) (hk3 : ∀ {z0 : Int} {z1 : Int} {z2 : Int} {z3 : Int} {σ : xSt} {r : (Int × xSt)}, k3 z0 z1 z2 z3 σ = some r → Fr s_Way_readNode σ r.2) {σ : xSt} {r : (Int × xSt)} (h : f_Way_readSides_70 q_Way_readNode q_Way_readSides k3 l3 l4 l5 l6 s0 s1 σ = some r) : Fr s_Way_readNode σ r.2 := by
  unfold f_Way_readSides_70 at h
  rcases ite_ex h with ⟨-, h⟩ | ⟨-, h⟩
  · obtain ⟨r8, σ9, e1, h⟩ := xbW_ex h
    have F1 : Fr s_Way_readNode σ σ9 := Fr.call Fr.rf (fr_Tokens_fail e1) (rfl)
    cases h
    exact F1
  · obtain ⟨σ10, e2, h⟩ := xbR_ex h
    have F2 : Fr s_Way_readNode σ σ10 := Fr.call Fr.rf (fr_Tokens_step e2) (rfl)
    obtain ⟨x11, -, h⟩ := xlet_ex h
    exact Fr.call F2 (hk3 h) (rfl)
theorem fr_Way_readSides_50 {q_Way_readNode : (Int → Int → Int → xSt → Option (Int × xSt))} {q_Way_readSides : (Int → Int → Int → xSt → Option (Int × xSt))} {k3 : (Int → Int → Int → Int → xSt → Option (Int × xSt))} {l3 : Int} {l4 : Int} {l5 : Int} {l6 : Int} (hq_Way_readNode : ∀ {z0 : Int} {z1 : Int} {z2 : Int} {σ : xSt} {r : (Int × xSt)}, q_Way_readNode z0 z1 z2 σ = some r → Fr s_Way_readNode σ r.2) (hq_Way_readSides : ∀ {z0 : Int} {z1 : Int} {z2 : Int} {σ : xSt} {r : (Int × xSt)}, q_Way_readSides z0 z1 z2 σ = some r → Fr s_Way_readNode σ r.2) (hk3 : ∀ {z0 : Int} {z1 : Int} {z2 : Int} {z3 : Int} {σ : xSt} {r : (Int × xSt)}, k3 z0 z1 z2 z3 σ = some r → Fr s_Way_readNode σ r.2) {σ : xSt} {r : (Int × xSt)} (h : f_Way_readSides_50 q_Way_readNode q_Way_readSides k3 l3 l4 l5 l6 σ = some r) : Fr s_Way_readNode σ r.2 := by
  unfold f_Way_readSides_50 at h
  obtain ⟨r7, -, h⟩ := xbR_ex h
  rcases ite_ex h with ⟨-, h⟩ | ⟨-, h⟩
  · exact Fr.call Fr.rf (fr_Way_readSides_70 hq_Way_readNode hq_Way_readSides hk3 h) (subL_rf _)
  · exact Fr.call Fr.rf (fr_Way_readSides_70 hq_Way_readNode hq_Way_readSides hk3 h) (subL_rf _)
theorem fr_Way_readSides_3 {q_Way_readNode : (Int → Int → Int → xSt → Option (Int × xSt))} {q_Way_readSides : (Int → Int → Int → xSt → Option (Int × xSt))} (hq_Way_readNode : ∀ {z0 : Int} {z1 : Int} {z2 : Int} {σ : xSt} {r : (Int × xSt)}, q_Way_readNode z0 z1 z2 σ = some r → Fr s_Way_readNode σ r.2) (hq_Way_readSides : ∀ {z0 : Int} {z1 : Int} {z2 : Int} {σ : xSt} {r : (Int × xSt)}, q_Way_readSides z0 z1 z2 σ = some r → Fr s_Way_readNode σ r.2) : ∀ (n : Nat) {l3 : Int} {l4 : Int} {l5 : Int} {l6 : Int} {σ : xSt} {r : (Int × xSt)}, f_Way_readSides_3 q_Way_readNode q_Way_readSides n l3 l4 l5 l6 σ = some r → Fr s_Way_readNode σ r.2 := by
  intro n
  induction n with
  | zero => exact fun h => nomatch h
  | succ n ih =>
    intro l3 l4 l5 l6 σ r h
    unfold f_Way_readSides_3 at h
    rcases ite_ex h with ⟨-, h⟩ | ⟨-, h⟩
    · obtain ⟨r1, σ2, e1, h⟩ := xbW_ex h
      have F1 : Fr s_Way_readNode σ σ2 := Fr.call Fr.rf (hq_Way_readNode e1) (rfl)
      rcases ite_ex h with ⟨-, h⟩ | ⟨-, h⟩
      · cases h
        exact F1
      · obtain ⟨r3, -, h⟩ := xbR_ex h
        rcases ite_ex h with ⟨-, h⟩ | ⟨-, h⟩
        · obtain ⟨r4, -, h⟩ := xbR_ex h
          rcases ite_ex h with ⟨-, h⟩ | ⟨-, h⟩
          · obtain ⟨r5, σ6, e4, h⟩ := xbW_ex h
            have F4 : Fr s_Way_readNode σ σ6 := Fr.call F1 (fr_Tokens_fail e4) (rfl)
            cases h
            exact F4
          · exact Fr.call F1 (fr_Way_readSides_50 hq_Way_readNode hq_Way_readSides (fun h => ih h) h) (subL_rf _)
        · exact Fr.call F1 (fr_Way_readSides_50 hq_Way_readNode hq_Way_readSides (fun h => ih h) h) (subL_rf _)
    · cases h
      exact Fr.rf
theorem fr0_Way_readSides {q_Way_readNode : (Int → Int → Int → xSt → Option (Int × xSt))} {q_Way_readSides : (Int → Int → Int → xSt → Option (Int × xSt))} {p3 : Int} {p4 : Int} {p5 : Int} (hq_Way_readNode : ∀ {z0 : Int} {z1 : Int} {z2 : Int} {σ : xSt} {r : (Int × xSt)}, q_Way_readNode z0 z1 z2 σ = some r → Fr s_Way_readNode σ r.2) (hq_Way_readSides : ∀ {z0 : Int} {z1 : Int} {z2 : Int} {σ : xSt} {r : (Int × xSt)}, q_Way_readSides z0 z1 z2 σ = some r → Fr s_Way_readNode σ r.2) {σ : xSt} {r : (Int × xSt)} (h : f0_Way_readSides q_Way_readNode q_Way_readSides p3 p4 p5 σ = some r) : Fr s_Way_readNode σ r.2 := by
  unfold f0_Way_readSides at h
  exact Fr.call Fr.rf (fr_Way_readSides_3 hq_Way_readNode hq_Way_readSides _ h) (subL_rf _)
theorem frg_Way_readNode : ∀ n, (∀ {p3 : Int} {p4 : Int} {p5 : Int} {σ : xSt} {r : (Int × xSt)}, f_Way_readNode n p3 p4 p5 σ = some r → Fr s_Way_readNode σ r.2) ∧ (∀ {p3 : Int} {p4 : Int} {p5 : Int} {σ : xSt} {r : (Int × xSt)}, f_Way_readSides n p3 p4 p5 σ = some r → Fr s_Way_readNode σ r.2) := by
  intro n
  induction n with
  | zero => exact ⟨(fun h => nomatch h), (fun h => nomatch h)⟩
  | succ n ih =>
    obtain ⟨i0, i1⟩ := ih
    exact ⟨(fun h => fr0_Way_readNode (q_Way_readNode := ((g_Way_readNode n).1)) (q_Way_readSides := ((g_Way_readNode n).2)) (fun h => i0 h) (fun h => i1 h) h), (fun h => fr0_Way_readSides (q_Way_readNode := ((g_Way_readNode n).1)) (q_Way_readSides := ((g_Way_readNode n).2)) (fun h => i0 h) (fun h => i1 h) h)⟩
theorem fr_Way_readNode {n : Nat} {p3 : Int} {p4 : Int} {p5 : Int} {σ : xSt} {r : (Int × xSt)} (h : f_Way_readNode n p3 p4 p5 σ = some r) : Fr s_Way_readNode σ r.2 := (frg_Way_readNode _).1 h
theorem fr_Way_readSides {n : Nat} {p3 : Int} {p4 : Int} {p5 : Int} {σ : xSt} {r : (Int × xSt)} (h : f_Way_readSides n p3 p4 p5 σ = some r) : Fr s_Way_readNode σ r.2 := (frg_Way_readNode _).2 h
theorem fr_Way_read {σ : xSt} {r : (Int × xSt)} (h : f_Way_read σ = some r) : Fr s_Way_read σ r.2 := by
  unfold f_Way_read at h
  obtain ⟨σ1, e1, h⟩ := xbR_ex h
  have F1 : Fr s_Way_read σ σ1 := Fr.call Fr.rf (fr_Way_clear e1) (rfl)
  obtain ⟨r2, σ3, e2, h⟩ := xbW_ex h
  have F2 : Fr s_Way_read σ σ3 := Fr.call F1 (fr_Way_readNode e2) (rfl)
  rcases ite_ex h with ⟨-, h⟩ | ⟨-, h⟩
  · cases h
    exact F2
  · obtain ⟨r4, σ5, e3, h⟩ := xbW_ex h
    have F3 : Fr s_Way_read σ σ5 := Fr.call F2 (fr_Tokens_isDone e3) (rfl)
    rcases ite_ex h with ⟨-, h⟩ | ⟨-, h⟩
    · cases h
      exact F3
    · cases h
      exact F3
theorem fr_Way_copyFrom_80 {a0 : Nat} {a1 : Nat} : ∀ (n : Nat) {l2 : Int} {σ : xSt} {r : (xSt)}, f_Way_copyFrom_80 a0 a1 n l2 σ = some r → Fr (s_Way_copyFrom a0 a1) σ r := by
  intro n
  induction n with
  | zero => exact fun h => nomatch h
  | succ n ih =>
    intro l2 σ r h
    unfold f_Way_copyFrom_80 at h
    rcases ite_ex h with ⟨-, h⟩ | ⟨-, h⟩
    · obtain ⟨-, h⟩ := gu_ex h
      obtain ⟨-, h⟩ := gu_ex h
      obtain ⟨σ8, e1, h⟩ := xlet_ex h
      have F1 : Fr (s_Way_copyFrom a0 a1) σ σ8 := Fr.up Fr.rf e1 (by simp [inS, s_Way_copyFrom])
      obtain ⟨x9, -, h⟩ := xlet_ex h
      exact Fr.call F1 (ih h) (subL_rf _)
    · cases h
      exact Fr.rf
theorem fr_Way_copyFrom_18 {a0 : Nat} {a1 : Nat} : ∀ (n : Nat) {l2 : Int} {σ : xSt} {r : (xSt)}, f_Way_copyFrom_18 a0 a1 n l2 σ = some r → Fr (s_Way_copyFrom a0 a1) σ r := by
  intro n
  induction n with
  | zero => exact fun h => nomatch h
  | succ n ih =>
    intro l2 σ r h
    unfold f_Way_copyFrom_18 at h
    rcases ite_ex h with ⟨-, h⟩ | ⟨-, h⟩
    · obtain ⟨-, h⟩ := gu_ex h
      obtain ⟨-, h⟩ := gu_ex h
      obtain ⟨σ3, e1, h⟩ := xlet_ex h
      have F1 : Fr (s_Way_copyFrom a0 a1) σ σ3 := Fr.up Fr.rf e1 (by simp [inS, s_Way_copyFrom])
      obtain ⟨-, h⟩ := gu_ex h
      obtain ⟨-, h⟩ := gu_ex h
      obtain ⟨σ4, e2, h⟩ := xlet_ex h
      have F2 : Fr (s_Way_copyFrom a0 a1) σ σ4 := Fr.up F1 e2 (by simp [inS, s_Way_copyFrom])
      obtain ⟨-, h⟩ := gu_ex h
      obtain ⟨-, h⟩ := gu_ex h
      obtain ⟨σ5, e3, h⟩ := xlet_ex h
      have F3 : Fr (s_Way_copyFrom a0 a1) σ σ5 := Fr.up F2 e3 (by simp [inS, s_Way_copyFrom])
      obtain ⟨-, h⟩ := gu_ex h
      obtain ⟨-, h⟩ := gu_ex h
      obtain ⟨σ6, e4, h⟩ := xlet_ex h
      have F4 : Fr (s_Way_copyFrom a0 a1) σ σ6 := Fr.up F3 e4 (by simp [inS, s_Way_copyFrom])
      obtain ⟨x7, -, h⟩ := xlet_ex h
      exact Fr.call F4 (ih h) (subL_rf _)
    · exact Fr.call Fr.rf (fr_Way_copyFrom_80 _ h) (subL_rf _)
theorem fr_Way_copyFrom {a0 : Nat} {a1 : Nat} {σ : xSt} {r : (xSt)} (h : f_Way_copyFrom a0 a1 σ = some r) : Fr (s_Way_copyFrom a0 a1) σ r := by
  unfold f_Way_copyFrom at h
  obtain ⟨σ1, e1, h⟩ := xlet_ex h
  have F1 : Fr (s_Way_copyFrom a0 a1) σ σ1 := Fr.up Fr.rf e1 (by simp [inS, s_Way_copyFrom])
  obtain ⟨σ2, e2, h⟩ := xlet_ex h
  have F2 : Fr (s_Way_copyFrom a0 a1) σ σ2 := Fr.up F1 e2 (by simp [inS, s_Way_copyFrom])
  exact Fr.call F2 (fr_Way_copyFrom_18 _ h) (subL_rf _)
theorem fr_X_way {σ : xSt} {r : (Int × xSt)} (h : f_X_way σ = some r) : Fr s_X_way σ r.2 := by
  unfold f_X_way at h
  obtain ⟨r1, σ2, e1, h⟩ := xbW_ex h
  have F1 : Fr s_X_way σ σ2 := Fr.call Fr.rf (fr_X_takeTape e1) (rfl)
  obtain ⟨σ3, e2, h⟩ := xbR_ex h
  have F2 : Fr s_X_way σ σ3 := Fr.call F1 (fr_Tokens_begin e2) (rfl)
  obtain ⟨r4, σ5, e3, h⟩ := xbW_ex h
  have F3 : Fr s_X_way σ σ5 := Fr.call F2 (fr_Way_read e3) (rfl)
  obtain ⟨σ6, e4, h⟩ := xlet_ex h
  have F4 : Fr s_X_way σ σ6 := Fr.up F3 e4 (rfl)
  rcases ite_ex h with ⟨-, h⟩ | ⟨-, h⟩
  · cases h
    exact F4
  · obtain ⟨σ7, e5, h⟩ := xbR_ex h
    have F5 : Fr s_X_way σ σ7 := Fr.call F4 (fr_Way_copyFrom e5) (rfl)
    cases h
    exact F5
theorem fr_Odds_weigh_175 {s0 : Int} {s1 : Int} {s2 : Int} {σ : xSt} {r : (xSt)} (h : f_Odds_weigh_175 s0 s1 s2 σ = some r) : Fr s_Odds_weigh σ r := by
  unfold f_Odds_weigh_175 at h
  obtain ⟨-, h⟩ := gu_ex h
  obtain ⟨σ13, e1, h⟩ := xlet_ex h
  have F1 : Fr s_Odds_weigh σ σ13 := Fr.up Fr.rf e1 (rfl)
  cases h
  exact F1
theorem fr_Odds_weigh_174 {s0 : Int} {s1 : Int} {σ : xSt} {r : (xSt)} (h : f_Odds_weigh_174 s0 s1 σ = some r) : Fr s_Odds_weigh σ r := by
  unfold f_Odds_weigh_174 at h
  exact Fr.call Fr.rf (fr_Odds_weigh_175 h) (subL_rf _)
theorem fr_Odds_weigh_141 {l3 : Int} {l4 : Int} {l5 : Int} {l7 : Int} {s0 : Int} {s1 : Int} {s2 : Int} {σ : xSt} {r : (xSt)} (h : f_Odds_weigh_141 l3 l4 l5 l7 s0 s1 s2 σ = some r) : Fr s_Odds_weigh σ r := by
  unfold f_Odds_weigh_141 at h
  obtain ⟨-, h⟩ := gu_ex h
  obtain ⟨σ12, e1, h⟩ := xlet_ex h
  have F1 : Fr s_Odds_weigh σ σ12 := Fr.up Fr.rf e1 (rfl)
  obtain ⟨-, h⟩ := gu_ex h
  rcases ite_ex h with ⟨-, h⟩ | ⟨-, h⟩
  · rcases ite_ex h with ⟨-, h⟩ | ⟨-, h⟩
    · exact Fr.call F1 (fr_Odds_weigh_175 h) (subL_rf _)
    · exact Fr.call F1 (fr_Odds_weigh_174 h) (subL_rf _)
  · exact Fr.call F1 (fr_Odds_weigh_174 h) (subL_rf _)
theorem fr_Odds_weigh_140 {l3 : Int} {l4 : Int} {l5 : Int} {l7 : Int} {s0 : Int} {s1 : Int} {σ : xSt} {r : (xSt)} (h : f_Odds_weigh_140 l3 l4 l5 l7 s0 s1 σ = some r) : Fr s_Odds_weigh σ r := by
  unfold f_Odds_weigh_140 at h
  exact Fr.call Fr.rf (fr_Odds_weigh_141 h) (subL_rf _)
theorem fr_Odds_weigh {p3 : Int} {σ : xSt} {r : (xSt)} (h : f_Odds_weigh p3 σ = some r) : Fr s_Odds_weigh σ r := by
  unfold f_Odds_weigh at h
  obtain ⟨r1, -, h⟩ := xbR_ex h
  rcases ite_ex h with ⟨-, h⟩ | ⟨-, h⟩
  · cases h
    exact Fr.rf
  · obtain ⟨-, h⟩ := gu_ex h
    obtain ⟨σ2, e2, h⟩ := xlet_ex h
    have F2 : Fr s_Odds_weigh σ σ2 := Fr.up Fr.rf e2 (rfl)
    obtain ⟨-, h⟩ := gu_ex h
    obtain ⟨σ3, e3, h⟩ := xlet_ex h
    have F3 : Fr s_Odds_weigh σ σ3 := Fr.up F2 e3 (rfl)
    obtain ⟨-, h⟩ := gu_ex h
    obtain ⟨σ4, e4, h⟩ := xlet_ex h
    have F4 : Fr s_Odds_weigh σ σ4 := Fr.up F3 e4 (rfl)
    obtain ⟨r5, -, h⟩ := xbR_ex h
    obtain ⟨r6, -, h⟩ := xbR_ex h
    obtain ⟨r7, -, h⟩ := xbR_ex h
    obtain ⟨r8, -, h⟩ := xbR_ex h
    rcases ite_ex h with ⟨-, h⟩ | ⟨-, h⟩
    · cases h
      exact F4
    · rcases ite_ex h with ⟨-, h⟩ | ⟨-, h⟩
      · cases h
        exact F4
      · obtain ⟨r9, -, h⟩ := xbR_ex h
        obtain ⟨-, h⟩ := gu_ex h
        obtain ⟨-, h⟩ := gd_ex h
        obtain ⟨r10, -, h⟩ := xbR_ex h
        obtain ⟨-, h⟩ := gu_ex h
        obtain ⟨σ11, e11, h⟩ := xlet_ex h
        have F11 : Fr s_Odds_weigh σ σ11 := Fr.up F4 e11 (rfl)
        obtain ⟨-, h⟩ := gu_ex h
        rcases ite_ex h with ⟨-, h⟩ | ⟨-, h⟩
        · rcases ite_ex h with ⟨-, h⟩ | ⟨-, h⟩
          · exact Fr.call F11 (fr_Odds_weigh_141 h) (subL_rf _)
          · exact Fr.call F11 (fr_Odds_weigh_140 h) (subL_rf _)
        · exact Fr.call F11 (fr_Odds_weigh_140 h) (subL_rf _)
theorem fr_Odds_tally {p2 : Int} {σ : xSt} {r : (xSt)} (h : f_Odds_tally p2 σ = some r) : Fr s_Odds_tally σ r := by
  unfold f_Odds_tally at h
  obtain ⟨r1, -, h⟩ := xbR_ex h
  rcases ite_ex h with ⟨-, h⟩ | ⟨-, h⟩
  · cases h
    exact Fr.rf
  · obtain ⟨r2, -, h⟩ := xbR_ex h
    rcases ite_ex h with ⟨-, h⟩ | ⟨-, h⟩
    · obtain ⟨-, h⟩ := gu_ex h
      obtain ⟨σ3, e3, h⟩ := xlet_ex h
      have F3 : Fr s_Odds_tally σ σ3 := Fr.up Fr.rf e3 (rfl)
      cases h
      exact F3
    · obtain ⟨r4, -, h⟩ := xbR_ex h
      rcases ite_ex h with ⟨-, h⟩ | ⟨-, h⟩
      · obtain ⟨-, h⟩ := gu_ex h
        obtain ⟨σ5, e5, h⟩ := xlet_ex h
        have F5 : Fr s_Odds_tally σ σ5 := Fr.up Fr.rf e5 (rfl)
        cases h
        exact F5
      · obtain ⟨r6, -, h⟩ := xbR_ex h
        obtain ⟨r7, -, h⟩ := xbR_ex h
        rcases ite_ex h with ⟨-, h⟩ | ⟨-, h⟩
        · cases h
          exact Fr.rf
        · obtain ⟨r8, -, h⟩ := xbR_ex h
          obtain ⟨-, h⟩ := gu_ex h
          obtain ⟨-, h⟩ := gu_ex h
          obtain ⟨-, h⟩ := gu_ex h
          obtain ⟨σ9, e9, h⟩ := xlet_ex h
          have F9 : Fr s_Odds_tally σ σ9 := Fr.up Fr.rf e9 (rfl)
          cases h
          exact F9
theorem fr_Odds_spread_99 : ∀ (n : Nat) {l6 : Int} {σ : xSt} {r : (xSt)}, f_Odds_spread_99  n l6 σ = some r → Fr s_Odds_spread σ r := by
  intro n
  induction n with
  | zero => exact fun h => nomatch h
  | succ n ih =>
    intro l6 σ r h
    unfold f_Odds_spread_99 at h
    rcases ite_ex h with ⟨-, h⟩ | ⟨-, h⟩
    · rcases ite_ex h with ⟨-, h⟩ | ⟨-, h⟩
      · obtain ⟨σ13, e1, h⟩ := xbR_ex h
        have F1 : Fr s_Odds_spread σ σ13 := Fr.call Fr.rf (fr_Odds_weigh e1) (rfl)
        obtain ⟨σ14, e2, h⟩ := xbR_ex h
        have F2 : Fr s_Odds_spread σ σ14 := Fr.call F1 (fr_Odds_tally e2) (rfl)
        obtain ⟨x15, -, h⟩ := xlet_ex h
        exact Fr.call F2 (ih h) (subL_rf _)
      · cases h
        exact Fr.rf
    · cases h
      exact Fr.rf
theorem fr_Odds_spread_75 : ∀ (n : Nat) {l6 : Int} {σ : xSt} {r : (xSt)}, f_Odds_spread_75  n l6 σ = some r → Fr s_Odds_spread σ r := by
  intro n
  induction n with
  | zero => exact fun h => nomatch h
  | succ n ih =>
    intro l6 σ r h
    unfold f_Odds_spread_75 at h
    rcases ite_ex h with ⟨-, h⟩ | ⟨-, h⟩
    · obtain ⟨-, h⟩ := gu_ex h
      obtain ⟨σ11, e1, h⟩ := xlet_ex h
      have F1 : Fr s_Odds_spread σ σ11 := Fr.up Fr.rf e1 (rfl)
      obtain ⟨x12, -, h⟩ := xlet_ex h
      exact Fr.call F1 (ih h) (subL_rf _)
    · exact Fr.call Fr.rf (fr_Odds_spread_99 _ h) (subL_rf _)
theorem fr_Odds_spread_25 : ∀ (n : Nat) {l6 : Int} {σ : xSt} {r : (xSt)}, f_Odds_spread_25  n l6 σ = some r → Fr s_Odds_spread σ r := by
  intro n
  induction n with
  | zero => exact fun h => nomatch h
  | succ n ih =>
    intro l6 σ r h
    unfold f_Odds_spread_25 at h
    rcases ite_ex h with ⟨-, h⟩ | ⟨-, h⟩
    · obtain ⟨r5, -, h⟩ := xbR_ex h
      obtain ⟨r6, -, h⟩ := xbR_ex h
      obtain ⟨σ7, e3, h⟩ := xlet_ex h
      have F3 : Fr s_Odds_spread σ σ7 := Fr.up Fr.rf e3 (rfl)
      obtain ⟨x8, -, h⟩ := xlet_ex h
      exact Fr.call F3 (ih h) (subL_rf _)
    · obtain ⟨σ9, e4, h⟩ := xlet_ex h
      have F4 : Fr s_Odds_spread σ σ9 := Fr.up Fr.rf e4 (rfl)
      obtain ⟨σ10, e5, h⟩ := xlet_ex h
      have F5 : Fr s_Odds_spread σ σ10 := Fr.up F4 e5 (rfl)
      exact Fr.call F5 (fr_Odds_spread_75 _ h) (subL_rf _)
theorem fr_Odds_spread {p3 : Int} {p4 : Int} {p5 : Int} {σ : xSt} {r : (xSt)} (h : f_Odds_spread p3 p4 p5 σ = some r) : Fr s_Odds_spread σ r := by
  unfold f_Odds_spread at h
  obtain ⟨σ1, e1, h⟩ := xlet_ex h
  have F1 : Fr s_Odds_spread σ σ1 := Fr.up Fr.rf e1 (rfl)
  obtain ⟨σ2, e2, h⟩ := xlet_ex h
  have F2 : Fr s_Odds_spread σ σ2 := Fr.up F1 e2 (rfl)
  obtain ⟨σ3, e3, h⟩ := xlet_ex h
  have F3 : Fr s_Odds_spread σ σ3 := Fr.up F2 e3 (rfl)
  obtain ⟨σ4, e4, h⟩ := xlet_ex h
  have F4 : Fr s_Odds_spread σ σ4 := Fr.up F3 e4 (rfl)
  exact Fr.call F4 (fr_Odds_spread_25 _ h) (subL_rf _)
theorem fr_X_spreadBy {p1 : Int} {p2 : Int} {p3 : Int} {σ : xSt} {r : (Int × xSt)} (h : f_X_spreadBy p1 p2 p3 σ = some r) : Fr s_X_spreadBy σ r.2 := by
  unfold f_X_spreadBy at h
  rcases ite_ex h with ⟨-, h⟩ | ⟨-, h⟩
  · cases h
    exact Fr.rf
  · rcases ite_ex h with ⟨-, h⟩ | ⟨-, h⟩
    · cases h
      exact Fr.rf
    · rcases ite_ex h with ⟨-, h⟩ | ⟨-, h⟩
      · cases h
        exact Fr.rf
      · rcases ite_ex h with ⟨-, h⟩ | ⟨-, h⟩
        · cases h
          exact Fr.rf
        · obtain ⟨r1, -, h⟩ := xbR_ex h
          rcases ite_ex h with ⟨-, h⟩ | ⟨-, h⟩
          · cases h
            exact Fr.rf
          · obtain ⟨r2, -, h⟩ := xbR_ex h
            rcases ite_ex h with ⟨-, h⟩ | ⟨-, h⟩
            · cases h
              exact Fr.rf
            · obtain ⟨σ3, e3, h⟩ := xbR_ex h
              have F3 : Fr s_X_spreadBy σ σ3 := Fr.call Fr.rf (fr_Odds_spread e3) (rfl)
              rcases ite_ex h with ⟨-, h⟩ | ⟨-, h⟩
              · cases h
                exact F3
              · cases h
                exact F3
theorem fr_Fraction_put {a0 : Nat} {p1 : Int} {p2 : Int} {σ : xSt} {r : (Int × xSt)} (h : f_Fraction_put a0 p1 p2 σ = some r) : Fr (s_Fraction_put a0) σ r.2 := by
  unfold f_Fraction_put at h
  rcases ite_ex h with ⟨-, h⟩ | ⟨-, h⟩
  · cases h
    exact Fr.rf
  · obtain ⟨r1, -, h⟩ := xbR_ex h
    rcases ite_ex h with ⟨-, h⟩ | ⟨-, h⟩
    · cases h
      exact Fr.rf
    · obtain ⟨-, h⟩ := gd_ex h
      obtain ⟨σ2, e2, h⟩ := xlet_ex h
      have F2 : Fr (s_Fraction_put a0) σ σ2 := Fr.up Fr.rf e2 (by simp [inS, s_Fraction_put])
      obtain ⟨-, h⟩ := gd_ex h
      obtain ⟨σ3, e3, h⟩ := xlet_ex h
      have F3 : Fr (s_Fraction_put a0) σ σ3 := Fr.up F2 e3 (by simp [inS, s_Fraction_put])
      obtain ⟨σ4, e4, h⟩ := xlet_ex h
      have F4 : Fr (s_Fraction_put a0) σ σ4 := Fr.up F3 e4 (by simp [inS, s_Fraction_put])
      cases h
      exact F4
theorem fr_X_told {p1 : Int} {p2 : Int} {p3 : Int} {σ : xSt} {r : (Int × xSt)} (h : f_X_told p1 p2 p3 σ = some r) : Fr s_X_told σ r.2 := by
  unfold f_X_told at h
  obtain ⟨r1, σ2, e1, h⟩ := xbW_ex h
  have F1 : Fr s_X_told σ σ2 := Fr.call Fr.rf (fr_Fraction_put e1) (rfl)
  obtain ⟨r3, -, h⟩ := xbR_ex h
  cases h
  exact F1
theorem fr_X_chance {p1 : Int} {p2 : Int} {σ : xSt} {r : (Option Int × xSt)} (h : f_X_chance p1 p2 σ = some r) : Fr s_X_chance σ r.2 := by
  unfold f_X_chance at h
  obtain ⟨r1, -, h⟩ := xbR_ex h
  rcases ite_ex h with ⟨-, h⟩ | ⟨-, h⟩
  · obtain ⟨r2, -, h⟩ := xbR_ex h
    rcases ite_ex h with ⟨-, h⟩ | ⟨-, h⟩
    · cases h
      exact Fr.rf
    · obtain ⟨r3, σ4, e3, h⟩ := xbW_ex h
      have F3 : Fr s_X_chance σ σ4 := Fr.call Fr.rf (fr_X_spreadBy e3) (rfl)
      rcases ite_ex h with ⟨-, h⟩ | ⟨-, h⟩
      · cases h
        exact F3
      · obtain ⟨r5, -, h⟩ := xbR_ex h
        obtain ⟨r6, σ7, e5, h⟩ := xbW_ex h
        have F5 : Fr s_X_chance σ σ7 := Fr.call F3 (fr_X_told e5) (rfl)
        cases h
        exact F5
  · cases h
    exact Fr.rf
theorem fr_X_chanceAt {p1 : Int} {p2 : Int} {p3 : Int} {p4 : Int} {σ : xSt} {r : (Option Int × xSt)} (h : f_X_chanceAt p1 p2 p3 p4 σ = some r) : Fr s_X_chanceAt σ r.2 := by
  unfold f_X_chanceAt at h
  obtain ⟨r1, -, h⟩ := xbR_ex h
  rcases ite_ex h with ⟨-, h⟩ | ⟨-, h⟩
  · cases h
    exact Fr.rf
  · obtain ⟨r2, σ3, e2, h⟩ := xbW_ex h
    have F2 : Fr s_X_chanceAt σ σ3 := Fr.call Fr.rf (fr_X_spreadBy e2) (rfl)
    rcases ite_ex h with ⟨-, h⟩ | ⟨-, h⟩
    · cases h
      exact F2
    · obtain ⟨r4, -, h⟩ := xbR_ex h
      obtain ⟨r5, σ6, e4, h⟩ := xbW_ex h
      have F4 : Fr s_X_chanceAt σ σ6 := Fr.call F2 (fr_X_told e4) (rfl)
      cases h
      exact F4
theorem fr_X_mean {p1 : Int} {p2 : Int} {p3 : Int} {σ : xSt} {r : (Option Int × xSt)} (h : f_X_mean p1 p2 p3 σ = some r) : Fr s_X_mean σ r.2 := by
  unfold f_X_mean at h
  obtain ⟨r1, σ2, e1, h⟩ := xbW_ex h
  have F1 : Fr s_X_mean σ σ2 := Fr.call Fr.rf (fr_X_spreadBy e1) (rfl)
  rcases ite_ex h with ⟨-, h⟩ | ⟨-, h⟩
  · cases h
    exact F1
  · obtain ⟨r3, σ4, e2, h⟩ := xbW_ex h
    have F2 : Fr s_X_mean σ σ4 := Fr.call F1 (fr_X_told e2) (rfl)
    cases h
    exact F2
theorem fr_Odds_addPowers_20 : ∀ (n : Nat) {l1 : Int} {l2 : Int} {l3 : Int} {l5 : Int} {σ : xSt} {r : (xSt)}, f_Odds_addPowers_20  n l1 l2 l3 l5 σ = some r → Fr s_Odds_addPowers σ r := by
  intro n
  induction n with
  | zero => exact fun h => nomatch h
  | succ n ih =>
    intro l1 l2 l3 l5 σ r h
    unfold f_Odds_addPowers_20 at h
    obtain ⟨-, h⟩ := gu_ex h
    rcases ite_ex h with ⟨-, h⟩ | ⟨-, h⟩
    · cases h
      exact Fr.rf
    · obtain ⟨-, h⟩ := gu_ex h
      obtain ⟨x3, -, h⟩ := xlet_ex h
      obtain ⟨r4, -, h⟩ := xbR_ex h
      rcases ite_ex h with ⟨-, h⟩ | ⟨-, h⟩
      · obtain ⟨x5, -, h⟩ := xlet_ex h
        obtain ⟨x6, -, h⟩ := xlet_ex h
        exact Fr.call Fr.rf (ih h) (subL_rf _)
      · obtain ⟨r7, -, h⟩ := xbR_ex h
        rcases ite_ex h with ⟨-, h⟩ | ⟨-, h⟩
        · obtain ⟨x8, -, h⟩ := xlet_ex h
          obtain ⟨x9, -, h⟩ := xlet_ex h
          exact Fr.call Fr.rf (ih h) (subL_rf _)
        · obtain ⟨-, h⟩ := gu_ex h
          obtain ⟨-, h⟩ := gu_ex h
          obtain ⟨r10, -, h⟩ := xbR_ex h
          obtain ⟨-, h⟩ := gu_ex h
          obtain ⟨σ11, e4, h⟩ := xlet_ex h
          have F4 : Fr s_Odds_addPowers σ σ11 := Fr.up Fr.rf e4 (rfl)
          obtain ⟨x12, -, h⟩ := xlet_ex h
          obtain ⟨x13, -, h⟩ := xlet_ex h
          exact Fr.call F4 (ih h) (subL_rf _)
theorem fr_Odds_addPowers {p1 : Int} {p2 : Int} {σ : xSt} {r : (xSt)} (h : f_Odds_addPowers p1 p2 σ = some r) : Fr s_Odds_addPowers σ r := by
  unfold f_Odds_addPowers at h
  obtain ⟨r1, -, h⟩ := xbR_ex h
  rcases ite_ex h with ⟨-, h⟩ | ⟨-, h⟩
  · cases h
    exact Fr.rf
  · obtain ⟨-, h⟩ := gu_ex h
    obtain ⟨x2, -, h⟩ := xlet_ex h
    exact Fr.call Fr.rf (fr_Odds_addPowers_20 _ h) (subL_rf _)
theorem fr_Odds_tellPolynomials_35 : ∀ (n : Nat) {l3 : Int} {σ : xSt} {r : (xSt)}, f_Odds_tellPolynomials_35  n l3 σ = some r → Fr s_Odds_tellPolynomials σ r := by
  intro n
  induction n with
  | zero => exact fun h => nomatch h
  | succ n ih =>
    intro l3 σ r h
    unfold f_Odds_tellPolynomials_35 at h
    rcases ite_ex h with ⟨-, h⟩ | ⟨-, h⟩
    · obtain ⟨r4, -, h⟩ := xbR_ex h
      rcases ite_ex h with ⟨-, h⟩ | ⟨-, h⟩
      · obtain ⟨σ5, e2, h⟩ := xbR_ex h
        have F2 : Fr s_Odds_tellPolynomials σ σ5 := Fr.call Fr.rf (fr_Odds_addPowers e2) (rfl)
        obtain ⟨x6, -, h⟩ := xlet_ex h
        exact Fr.call F2 (ih h) (subL_rf _)
      · obtain ⟨r7, -, h⟩ := xbR_ex h
        rcases ite_ex h with ⟨-, h⟩ | ⟨-, h⟩
        · obtain ⟨r8, -, h⟩ := xbR_ex h
          obtain ⟨σ9, e5, h⟩ := xbR_ex h
          have F5 : Fr s_Odds_tellPolynomials σ σ9 := Fr.call Fr.rf (fr_Odds_addPowers e5) (rfl)
          obtain ⟨x10, -, h⟩ := xlet_ex h
          exact Fr.call F5 (ih h) (subL_rf _)
        · obtain ⟨x11, -, h⟩ := xlet_ex h
          exact Fr.call Fr.rf (ih h) (subL_rf _)
    · cases h
      exact Fr.rf
theorem fr_Odds_tellPolynomials_11 : ∀ (n : Nat) {l3 : Int} {σ : xSt} {r : (xSt)}, f_Odds_tellPolynomials_11  n l3 σ = some r → Fr s_Odds_tellPolynomials σ r := by
  intro n
  induction n with
  | zero => exact fun h => nomatch h
  | succ n ih =>
    intro l3 σ r h
    unfold f_Odds_tellPolynomials_11 at h
    rcases ite_ex h with ⟨-, h⟩ | ⟨-, h⟩
    · obtain ⟨-, h⟩ := gu_ex h
      obtain ⟨σ2, e1, h⟩ := xlet_ex h
      have F1 : Fr s_Odds_tellPolynomials σ σ2 := Fr.up Fr.rf e1 (rfl)
      obtain ⟨x3, -, h⟩ := xlet_ex h
      exact Fr.call F1 (ih h) (subL_rf _)
    · exact Fr.call Fr.rf (fr_Odds_tellPolynomials_35 _ h) (subL_rf _)
theorem fr_Odds_tellPolynomials {σ : xSt} {r : (xSt)} (h : f_Odds_tellPolynomials σ = some r) : Fr s_Odds_tellPolynomials σ r := by
  unfold f_Odds_tellPolynomials at h
  obtain ⟨σ1, e1, h⟩ := xbR_ex h
  have F1 : Fr s_Odds_tellPolynomials σ σ1 := Fr.call Fr.rf (fr_Odds_spread e1) (rfl)
  exact Fr.call F1 (fr_Odds_tellPolynomials_11 _ h) (subL_rf _)
theorem fr_X_poly_106 {l2 : Int} {l3 : Int} {s0 : Int} {σ : xSt} {r : (Option Int × xSt)} (h : f_X_poly_106 l2 l3 s0 σ = some r) : Fr s_X_poly σ r.2 := by
  unfold f_X_poly_106 at h
  obtain ⟨r6, -, h⟩ := xbR_ex h
  obtain ⟨r7, σ8, e2, h⟩ := xbW_ex h
  have F2 : Fr s_X_poly σ σ8 := Fr.call Fr.rf (fr_X_told e2) (rfl)
  cases h
  exact F2
theorem fr_X_poly_24 {l1 : Int} {l2 : Int} {l3 : Int} {s0 : Int} {σ : xSt} {r : (Option Int × xSt)} (h : f_X_poly_24 l1 l2 l3 s0 σ = some r) : Fr s_X_poly σ r.2 := by
  unfold f_X_poly_24 at h
  rcases ite_ex h with ⟨-, h⟩ | ⟨-, h⟩
  · cases h
    exact Fr.rf
  · obtain ⟨r2, -, h⟩ := xbR_ex h
    rcases ite_ex h with ⟨-, h⟩ | ⟨-, h⟩
    · cases h
      exact Fr.rf
    · obtain ⟨r3, -, h⟩ := xbR_ex h
      rcases ite_ex h with ⟨-, h⟩ | ⟨-, h⟩
      · cases h
        exact Fr.rf
      · obtain ⟨r4, -, h⟩ := xbR_ex h
        rcases ite_ex h with ⟨-, h⟩ | ⟨-, h⟩
        · cases h
          exact Fr.rf
        · obtain ⟨σ5, e4, h⟩ := xbR_ex h
          have F4 : Fr s_X_poly σ σ5 := Fr.call Fr.rf (fr_Odds_tellPolynomials e4) (rfl)
          rcases ite_ex h with ⟨-, h⟩ | ⟨-, h⟩
          · exact Fr.call F4 (fr_X_poly_106 h) (subL_rf _)
          · exact Fr.call F4 (fr_X_poly_106 h) (subL_rf _)
theorem fr_X_poly_19 {l1 : Int} {l2 : Int} {l3 : Int} {σ : xSt} {r : (Option Int × xSt)} (h : f_X_poly_19 l1 l2 l3 σ = some r) : Fr s_X_poly σ r.2 := by
  unfold f_X_poly_19 at h
  exact Fr.call Fr.rf (fr_X_poly_24 h) (subL_rf _)
theorem fr_X_poly {p1 : Int} {p2 : Int} {p3 : Int} {σ : xSt} {r : (Option Int × xSt)} (h : f_X_poly p1 p2 p3 σ = some r) : Fr s_X_poly σ r.2 := by
  unfold f_X_poly at h
  rcases ite_ex h with ⟨-, h⟩ | ⟨-, h⟩
  · exact Fr.call Fr.rf (fr_X_poly_19 h) (subL_rf _)
  · obtain ⟨r1, -, h⟩ := xbR_ex h
    rcases ite_ex h with ⟨-, h⟩ | ⟨-, h⟩
    · exact Fr.call Fr.rf (fr_X_poly_24 h) (subL_rf _)
    · exact Fr.call Fr.rf (fr_X_poly_19 h) (subL_rf _)
theorem fr_X_like {p1 : Int} {p2 : Int} {σ : xSt} {r : (Int × xSt)} (h : f_X_like p1 p2 σ = some r) : Fr s_X_like σ r.2 := by
  unfold f_X_like at h
  obtain ⟨r1, -, h⟩ := xbR_ex h
  rcases ite_ex h with ⟨-, h⟩ | ⟨-, h⟩
  · cases h
    exact Fr.rf
  · obtain ⟨r2, -, h⟩ := xbR_ex h
    rcases ite_ex h with ⟨-, h⟩ | ⟨-, h⟩
    · cases h
      exact Fr.rf
    · obtain ⟨r3, -, h⟩ := xbR_ex h
      rcases ite_ex h with ⟨-, h⟩ | ⟨-, h⟩
      · cases h
        exact Fr.rf
      · obtain ⟨σ4, e4, h⟩ := xbR_ex h
        have F4 : Fr s_X_like σ σ4 := Fr.call Fr.rf (fr_Odds_tellPolynomials e4) (rfl)
        obtain ⟨r5, -, h⟩ := xbR_ex h
        rcases ite_ex h with ⟨-, h⟩ | ⟨-, h⟩
        · cases h
          exact F4
        · cases h
          exact F4
theorem fr_X_even_51 : ∀ (n : Nat) {l1 : Int} {σ : xSt} {r : (Int × xSt)}, f_X_even_51  n l1 σ = some r → Fr s_X_even σ r.2 := by
  intro n
  induction n with
  | zero => exact fun h => nomatch h
  | succ n ih =>
    intro l1 σ r h
    unfold f_X_even_51 at h
    rcases ite_ex h with ⟨-, h⟩ | ⟨-, h⟩
    · obtain ⟨r3, -, h⟩ := xbR_ex h
      rcases ite_ex h with ⟨-, h⟩ | ⟨-, h⟩
      · cases h
        exact Fr.rf
      · obtain ⟨r4, -, h⟩ := xbR_ex h
        rcases ite_ex h with ⟨-, h⟩ | ⟨-, h⟩
        · cases h
          exact Fr.rf
        · obtain ⟨x5, -, h⟩ := xlet_ex h
          exact Fr.call Fr.rf (ih h) (subL_rf _)
    · cases h
      exact Fr.rf
theorem fr_X_even {σ : xSt} {r : (Int × xSt)} (h : f_X_even σ = some r) : Fr s_X_even σ r.2 := by
  unfold f_X_even at h
  obtain ⟨r1, -, h⟩ := xbR_ex h
  rcases ite_ex h with ⟨-, h⟩ | ⟨-, h⟩
  · cases h
    exact Fr.rf
  · rcases ite_ex h with ⟨-, h⟩ | ⟨-, h⟩
    · cases h
      exact Fr.rf
    · obtain ⟨σ2, e2, h⟩ := xbR_ex h
      have F2 : Fr s_X_even σ σ2 := Fr.call Fr.rf (fr_Odds_tellPolynomials e2) (rfl)
      exact Fr.call F2 (fr_X_even_51 _ h) (subL_rf _)
theorem fr_Judge_blame {p1 : Int} {σ : xSt} {r : (xSt)} (h : f_Judge_blame p1 σ = some r) : Fr s_Judge_blame σ r := by
  unfold f_Judge_blame at h
  obtain ⟨σ1, e1, h⟩ := xlet_ex h
  have F1 : Fr s_Judge_blame σ σ1 := Fr.up Fr.rf e1 (rfl)
  obtain ⟨σ2, e2, h⟩ := xlet_ex h
  have F2 : Fr s_Judge_blame σ σ2 := Fr.up F1 e2 (rfl)
  cases h
  exact F2
theorem fr_Judge_judgeThrow_55 {σ : xSt} {r : (xSt)} (h : f_Judge_judgeThrow_55 σ = some r) : Fr s_Judge_judgeThrow σ r := by
  unfold f_Judge_judgeThrow_55 at h
  obtain ⟨σ12, e1, h⟩ := xbR_ex h
  have F1 : Fr s_Judge_judgeThrow σ σ12 := Fr.call Fr.rf (fr_Judge_blame e1) (rfl)
  cases h
  exact F1
theorem fr_Judge_judgeThrow_110 {l2 : Int} {s0 : Int} {s1 : Int} {σ : xSt} {r : (xSt)} (h : f_Judge_judgeThrow_110 l2 s0 s1 σ = some r) : Fr s_Judge_judgeThrow σ r := by
  unfold f_Judge_judgeThrow_110 at h
  obtain ⟨σ9, e1, h⟩ := xlet_ex h
  have F1 : Fr s_Judge_judgeThrow σ σ9 := Fr.up Fr.rf e1 (rfl)
  obtain ⟨r10, -, h⟩ := xbR_ex h
  obtain ⟨σ11, e3, h⟩ := xlet_ex h
  have F3 : Fr s_Judge_judgeThrow σ σ11 := Fr.up F1 e3 (rfl)
  cases h
  exact F3
theorem fr_Judge_judgeThrow {p1 : Int} {p2 : Int} {σ : xSt} {r : (xSt)} (h : f_Judge_judgeThrow p1 p2 σ = some r) : Fr s_Judge_judgeThrow σ r := by
  unfold f_Judge_judgeThrow at h
  rcases ite_ex h with ⟨-, h⟩ | ⟨-, h⟩
  · obtain ⟨r1, -, h⟩ := xbR_ex h
    rcases ite_ex h with ⟨-, h⟩ | ⟨-, h⟩
    · obtain ⟨r2, -, h⟩ := xbR_ex h
      rcases ite_ex h with ⟨-, h⟩ | ⟨-, h⟩
      · obtain ⟨r3, -, h⟩ := xbR_ex h
        rcases ite_ex h with ⟨-, h⟩ | ⟨-, h⟩
        · obtain ⟨r4, -, h⟩ := xbR_ex h
          obtain ⟨r5, -, h⟩ := xbR_ex h
          rcases ite_ex h with ⟨-, h⟩ | ⟨-, h⟩
          · obtain ⟨σ6, e6, h⟩ := xbR_ex h
            have F6 : Fr s_Judge_judgeThrow σ σ6 := Fr.call Fr.rf (fr_Judge_blame e6) (rfl)
            cases h
            exact F6
          · obtain ⟨σ7, e7, h⟩ := xlet_ex h
            have F7 : Fr s_Judge_judgeThrow σ σ7 := Fr.up Fr.rf e7 (rfl)
            rcases ite_ex h with ⟨-, h⟩ | ⟨-, h⟩
            · exact Fr.call F7 (fr_Judge_judgeThrow_110 h) (subL_rf _)
            · exact Fr.call F7 (fr_Judge_judgeThrow_110 h) (subL_rf _)
        · exact Fr.call Fr.rf (fr_Judge_judgeThrow_55 h) (subL_rf _)
      · exact Fr.call Fr.rf (fr_Judge_judgeThrow_55 h) (subL_rf _)
    · obtain ⟨σ8, e8, h⟩ := xbR_ex h
      have F8 : Fr s_Judge_judgeThrow σ σ8 := Fr.call Fr.rf (fr_Judge_blame e8) (rfl)
      cases h
      exact F8
  · cases h
    exact Fr.rf
theorem fr_Judge_readThrow {σ : xSt} {r : (Int × xSt)} (h : f_Judge_readThrow σ = some r) : Fr s_Judge_readThrow σ r.2 := by
  unfold f_Judge_readThrow at h
  obtain ⟨r1, -, h⟩ := xbR_ex h
  rcases ite_ex h with ⟨-, h⟩ | ⟨-, h⟩
  · obtain ⟨r2, σ3, e2, h⟩ := xbW_ex h
    have F2 : Fr s_Judge_readThrow σ σ3 := Fr.call Fr.rf (fr_Tokens_fail e2) (rfl)
    cases h
    exact F2
  · obtain ⟨r4, -, h⟩ := xbR_ex h
    rcases ite_ex h with ⟨-, h⟩ | ⟨-, h⟩
    · obtain ⟨r5, σ6, e4, h⟩ := xbW_ex h
      have F4 : Fr s_Judge_readThrow σ σ6 := Fr.call Fr.rf (fr_Tokens_fail e4) (rfl)
      cases h
      exact F4
    · obtain ⟨σ7, e5, h⟩ := xbR_ex h
      have F5 : Fr s_Judge_readThrow σ σ7 := Fr.call Fr.rf (fr_Tokens_step e5) (rfl)
      obtain ⟨r8, σ9, e6, h⟩ := xbW_ex h
      have F6 : Fr s_Judge_readThrow σ σ9 := Fr.call F5 (fr_Tokens_holdsNumber e6) (rfl)
      rcases ite_ex h with ⟨-, h⟩ | ⟨-, h⟩
      · cases h
        exact F6
      · obtain ⟨x10, -, h⟩ := xlet_ex h
        obtain ⟨σ11, e7, h⟩ := xbR_ex h
        have F7 : Fr s_Judge_readThrow σ σ11 := Fr.call F6 (fr_Tokens_step e7) (rfl)
        obtain ⟨r12, σ13, e8, h⟩ := xbW_ex h
        have F8 : Fr s_Judge_readThrow σ σ13 := Fr.call F7 (fr_Tokens_pass e8) (rfl)
        rcases ite_ex h with ⟨-, h⟩ | ⟨-, h⟩
        · cases h
          exact F8
        · obtain ⟨σ14, e9, h⟩ := xbR_ex h
          have F9 : Fr s_Judge_readThrow σ σ14 := Fr.call F8 (fr_Judge_judgeThrow e9) (rfl)
          cases h
          exact F9
theorem fr_Judge_judgeSo {p1 : Int} {σ : xSt} {r : (xSt)} (h : f_Judge_judgeSo p1 σ = some r) : Fr s_Judge_judgeSo σ r := by
  unfold f_Judge_judgeSo at h
  rcases ite_ex h with ⟨-, h⟩ | ⟨-, h⟩
  · obtain ⟨r1, -, h⟩ := xbR_ex h
    rcases ite_ex h with ⟨-, h⟩ | ⟨-, h⟩
    · obtain ⟨σ2, e2, h⟩ := xbR_ex h
      have F2 : Fr s_Judge_judgeSo σ σ2 := Fr.call Fr.rf (fr_Judge_blame e2) (rfl)
      cases h
      exact F2
    · obtain ⟨r3, -, h⟩ := xbR_ex h
      rcases ite_ex h with ⟨-, h⟩ | ⟨-, h⟩
      · cases h
        exact Fr.rf
      · obtain ⟨σ4, e4, h⟩ := xbR_ex h
        have F4 : Fr s_Judge_judgeSo σ σ4 := Fr.call Fr.rf (fr_Judge_blame e4) (rfl)
        cases h
        exact F4
  · cases h
    exact Fr.rf
theorem fr_Judge_readSo {σ : xSt} {r : (Int × xSt)} (h : f_Judge_readSo σ = some r) : Fr s_Judge_readSo σ r.2 := by
  unfold f_Judge_readSo at h
  obtain ⟨σ1, e1, h⟩ := xbR_ex h
  have F1 : Fr s_Judge_readSo σ σ1 := Fr.call Fr.rf (fr_Tokens_step e1) (rfl)
  obtain ⟨r2, -, h⟩ := xbR_ex h
  rcases ite_ex h with ⟨-, h⟩ | ⟨-, h⟩
  · obtain ⟨r3, σ4, e3, h⟩ := xbW_ex h
    have F3 : Fr s_Judge_readSo σ σ4 := Fr.call F1 (fr_Tokens_fail e3) (rfl)
    cases h
    exact F3
  · obtain ⟨r5, -, h⟩ := xbR_ex h
    rcases ite_ex h with ⟨-, h⟩ | ⟨-, h⟩
    · obtain ⟨r6, σ7, e5, h⟩ := xbW_ex h
      have F5 : Fr s_Judge_readSo σ σ7 := Fr.call F1 (fr_Tokens_fail e5) (rfl)
      cases h
      exact F5
    · obtain ⟨σ8, e6, h⟩ := xbR_ex h
      have F6 : Fr s_Judge_readSo σ σ8 := Fr.call F1 (fr_Tokens_step e6) (rfl)
      obtain ⟨r9, σ10, e7, h⟩ := xbW_ex h
      have F7 : Fr s_Judge_readSo σ σ10 := Fr.call F6 (fr_Tokens_pass e7) (rfl)
      rcases ite_ex h with ⟨-, h⟩ | ⟨-, h⟩
      · cases h
        exact F7
      · obtain ⟨σ11, e8, h⟩ := xbR_ex h
        have F8 : Fr s_Judge_readSo σ σ11 := Fr.call F7 (fr_Judge_judgeSo e8) (rfl)
        cases h
        exact F8
theorem fr_Judge_read_102 {σ : xSt} {r : (Int × xSt)} (h : f_Judge_read_102 σ = some r) : Fr s_Judge_read σ r.2 := by
  unfold f_Judge_read_102 at h
  obtain ⟨r15, σ16, e1, h⟩ := xbW_ex h
  have F1 : Fr s_Judge_read σ σ16 := Fr.call Fr.rf (fr_Tokens_isDone e1) (rfl)
  cases h
  exact F1
theorem fr_Judge_read_81 {σ : xSt} {r : (Int × xSt)} (h : f_Judge_read_81 σ = some r) : Fr s_Judge_read σ r.2 := by
  unfold f_Judge_read_81 at h
  obtain ⟨r12, -, h⟩ := xbR_ex h
  rcases ite_ex h with ⟨-, h⟩ | ⟨-, h⟩
  · exact Fr.call Fr.rf (fr_Judge_read_102 h) (subL_rf _)
  · obtain ⟨r13, σ14, e2, h⟩ := xbW_ex h
    have F2 : Fr s_Judge_read σ σ14 := Fr.call Fr.rf (fr_Judge_readSo e2) (rfl)
    rcases ite_ex h with ⟨-, h⟩ | ⟨-, h⟩
    · cases h
      exact F2
    · exact Fr.call F2 (fr_Judge_read_102 h) (subL_rf _)
theorem fr_Judge_read_30 : ∀ (n : Nat) {σ : xSt} {r : (Int × xSt)}, f_Judge_read_30  n σ = some r → Fr s_Judge_read σ r.2 := by
  intro n
  induction n with
  | zero => exact fun h => nomatch h
  | succ n ih =>
    intro σ r h
    unfold f_Judge_read_30 at h
    rcases ite_ex h with ⟨-, h⟩ | ⟨-, h⟩
    · obtain ⟨r7, -, h⟩ := xbR_ex h
      rcases ite_ex h with ⟨-, h⟩ | ⟨-, h⟩
      · obtain ⟨r8, -, h⟩ := xbR_ex h
        rcases ite_ex h with ⟨-, h⟩ | ⟨-, h⟩
        · obtain ⟨r9, σ10, e3, h⟩ := xbW_ex h
          have F3 : Fr s_Judge_read σ σ10 := Fr.call Fr.rf (fr_Judge_readThrow e3) (rfl)
          rcases ite_ex h with ⟨-, h⟩ | ⟨-, h⟩
          · cases h
            exact F3
          · obtain ⟨σ11, e4, h⟩ := xlet_ex h
            have F4 : Fr s_Judge_read σ σ11 := Fr.up F3 e4 (rfl)
            exact Fr.call F4 (ih h) (subL_rf _)
        · exact Fr.call Fr.rf (fr_Judge_read_81 h) (subL_rf _)
      · exact Fr.call Fr.rf (fr_Judge_read_81 h) (subL_rf _)
    · exact Fr.call Fr.rf (fr_Judge_read_81 h) (subL_rf _)
theorem fr_Judge_read {σ : xSt} {r : (Int × xSt)} (h : f_Judge_read σ = some r) : Fr s_Judge_read σ r.2 := by
  unfold f_Judge_read at h
  obtain ⟨σ1, e1, h⟩ := xlet_ex h
  have F1 : Fr s_Judge_read σ σ1 := Fr.up Fr.rf e1 (rfl)
  obtain ⟨σ2, e2, h⟩ := xlet_ex h
  have F2 : Fr s_Judge_read σ σ2 := Fr.up F1 e2 (rfl)
  obtain ⟨σ3, e3, h⟩ := xlet_ex h
  have F3 : Fr s_Judge_read σ σ3 := Fr.up F2 e3 (rfl)
  obtain ⟨σ4, e4, h⟩ := xlet_ex h
  have F4 : Fr s_Judge_read σ σ4 := Fr.up F3 e4 (rfl)
  obtain ⟨σ5, e5, h⟩ := xlet_ex h
  have F5 : Fr s_Judge_read σ σ5 := Fr.up F4 e5 (rfl)
  obtain ⟨σ6, e6, h⟩ := xlet_ex h
  have F6 : Fr s_Judge_read σ σ6 := Fr.up F5 e6 (rfl)
  exact Fr.call F6 (fr_Judge_read_30 _ h) (subL_rf _)
theorem fr_Judge_keep {σ : xSt} {r : (xSt)} (h : f_Judge_keep σ = some r) : Fr s_Judge_keep σ r := by
  unfold f_Judge_keep at h
  obtain ⟨σ1, e1, h⟩ := xlet_ex h
  have F1 : Fr s_Judge_keep σ σ1 := Fr.up Fr.rf e1 (rfl)
  obtain ⟨σ2, e2, h⟩ := xlet_ex h
  have F2 : Fr s_Judge_keep σ σ2 := Fr.up F1 e2 (rfl)
  obtain ⟨σ3, e3, h⟩ := xlet_ex h
  have F3 : Fr s_Judge_keep σ σ3 := Fr.up F2 e3 (rfl)
  obtain ⟨σ4, e4, h⟩ := xlet_ex h
  have F4 : Fr s_Judge_keep σ σ4 := Fr.up F3 e4 (rfl)
  obtain ⟨r5, -, h⟩ := xbR_ex h
  obtain ⟨σ6, e6, h⟩ := xlet_ex h
  have F6 : Fr s_Judge_keep σ σ6 := Fr.up F4 e6 (rfl)
  cases h
  exact F6
theorem fr_X_evening {σ : xSt} {r : (Int × xSt)} (h : f_X_evening σ = some r) : Fr s_X_evening σ r.2 := by
  unfold f_X_evening at h
  obtain ⟨r1, σ2, e1, h⟩ := xbW_ex h
  have F1 : Fr s_X_evening σ σ2 := Fr.call Fr.rf (fr_X_takeTape e1) (rfl)
  obtain ⟨r3, -, h⟩ := xbR_ex h
  rcases ite_ex h with ⟨-, h⟩ | ⟨-, h⟩
  · cases h
    exact F1
  · obtain ⟨σ4, e3, h⟩ := xbR_ex h
    have F3 : Fr s_X_evening σ σ4 := Fr.call F1 (fr_Tokens_begin e3) (rfl)
    obtain ⟨r5, σ6, e4, h⟩ := xbW_ex h
    have F4 : Fr s_X_evening σ σ6 := Fr.call F3 (fr_Judge_read e4) (rfl)
    obtain ⟨σ7, e5, h⟩ := xlet_ex h
    have F5 : Fr s_X_evening σ σ7 := Fr.up F4 e5 (rfl)
    rcases ite_ex h with ⟨-, h⟩ | ⟨-, h⟩
    · cases h
      exact F5
    · obtain ⟨σ8, e6, h⟩ := xbR_ex h
      have F6 : Fr s_X_evening σ σ8 := Fr.call F5 (fr_Judge_keep e6) (rfl)
      cases h
      exact F6
theorem fr_X_takeRow_95 {k20 : (Int → Int → xSt → Option (Int × xSt))} {l3 : Int} {l4 : Int} {s0 : Int} {s1 : Int} (hk20 : ∀ {z0 : Int} {z1 : Int} {σ : xSt} {r : (Int × xSt)}, k20 z0 z1 σ = some r → Fr s_X_takeRow σ r.2) {σ : xSt} {r : (Int × xSt)} (h : f_X_takeRow_95 k20 l3 l4 s0 s1 σ = some r) : Fr s_X_takeRow σ r.2 := by
  unfold f_X_takeRow_95 at h
  obtain ⟨-, h⟩ := gu_ex h
  obtain ⟨σ3, e1, h⟩ := xlet_ex h
  have F1 : Fr s_X_takeRow σ σ3 := Fr.up Fr.rf e1 (rfl)
  obtain ⟨x4, -, h⟩ := xlet_ex h
  exact Fr.call F1 (hk20 h) (rfl)
theorem fr_X_takeRow_72 {k20 : (Int → Int → xSt → Option (Int × xSt))} {l3 : Int} {l4 : Int} (hk20 : ∀ {z0 : Int} {z1 : Int} {σ : xSt} {r : (Int × xSt)}, k20 z0 z1 σ = some r → Fr s_X_takeRow σ r.2) {σ : xSt} {r : (Int × xSt)} (h : f_X_takeRow_72 k20 l3 l4 σ = some r) : Fr s_X_takeRow σ r.2 := by
  unfold f_X_takeRow_72 at h
  obtain ⟨-, h⟩ := gu_ex h
  rcases ite_ex h with ⟨-, h⟩ | ⟨-, h⟩
  · exact Fr.call Fr.rf (fr_X_takeRow_95 hk20 h) (subL_rf _)
  · exact Fr.call Fr.rf (fr_X_takeRow_95 hk20 h) (subL_rf _)
theorem fr_X_takeRow_20 : ∀ (n : Nat) {l3 : Int} {l4 : Int} {σ : xSt} {r : (Int × xSt)}, f_X_takeRow_20  n l3 l4 σ = some r → Fr s_X_takeRow σ r.2 := by
  intro n
  induction n with
  | zero => exact fun h => nomatch h
  | succ n ih =>
    intro l3 l4 σ r h
    unfold f_X_takeRow_20 at h
    rcases ite_ex h with ⟨-, h⟩ | ⟨-, h⟩
    · rcases ite_ex h with ⟨-, h⟩ | ⟨-, h⟩
      · rcases ite_ex h with ⟨-, h⟩ | ⟨-, h⟩
        · obtain ⟨-, h⟩ := gu_ex h
          rcases ite_ex h with ⟨-, h⟩ | ⟨-, h⟩
          · exact Fr.call Fr.rf (fr_X_takeRow_72 (fun h => ih h) h) (subL_rf _)
          · obtain ⟨-, h⟩ := gu_ex h
            rcases ite_ex h with ⟨-, h⟩ | ⟨-, h⟩
            · exact Fr.call Fr.rf (fr_X_takeRow_72 (fun h => ih h) h) (subL_rf _)
            · cases h
              exact Fr.rf
        · cases h
          exact Fr.rf
      · cases h
        exact Fr.rf
    · cases h
      exact Fr.rf
theorem fr_X_takeRow {p1 : Int} {p2 : Int} {σ : xSt} {r : (Int × xSt)} (h : f_X_takeRow p1 p2 σ = some r) : Fr s_X_takeRow σ r.2 := by
  unfold f_X_takeRow at h
  obtain ⟨r1, σ2, e1, h⟩ := xbW_ex h
  have F1 : Fr s_X_takeRow σ σ2 := Fr.call Fr.rf (fr_X_takeTape e1) (rfl)
  rcases ite_ex h with ⟨-, h⟩ | ⟨-, h⟩
  · cases h
    exact F1
  · rcases ite_ex h with ⟨-, h⟩ | ⟨-, h⟩
    · cases h
      exact F1
    · exact Fr.call F1 (fr_X_takeRow_20 _ h) (subL_rf _)
theorem fr_Bits_add {p1 : Int} {σ : xSt} {r : (xSt)} (h : f_Bits_add p1 σ = some r) : Fr s_Bits_add σ r := by
  unfold f_Bits_add at h
  obtain ⟨r1, -, h⟩ := xbR_ex h
  rcases ite_ex h with ⟨-, h⟩ | ⟨-, h⟩
  · cases h
    exact Fr.rf
  · obtain ⟨-, h⟩ := gu_ex h
    obtain ⟨σ2, e2, h⟩ := xlet_ex h
    have F2 : Fr s_Bits_add σ σ2 := Fr.up Fr.rf e2 (rfl)
    obtain ⟨σ3, e3, h⟩ := xlet_ex h
    have F3 : Fr s_Bits_add σ σ3 := Fr.up F2 e3 (rfl)
    cases h
    exact F3
theorem fr_Bits_addPairs_3 {a1 : Nat} : ∀ (n : Nat) {l2 : Int} {l3 : Int} {l4 : Int} {σ : xSt} {r : (xSt)}, f_Bits_addPairs_3 a1 n l2 l3 l4 σ = some r → Fr (s_Bits_addPairs a1) σ r := by
  intro n
  induction n with
  | zero => exact fun h => nomatch h
  | succ n ih =>
    intro l2 l3 l4 σ r h
    unfold f_Bits_addPairs_3 at h
    rcases ite_ex h with ⟨-, h⟩ | ⟨-, h⟩
    · obtain ⟨r1, -, h⟩ := xbR_ex h
      obtain ⟨r2, -, h⟩ := xbR_ex h
      rcases ite_ex h with ⟨-, h⟩ | ⟨-, h⟩
      · obtain ⟨x3, -, h⟩ := xlet_ex h
        exact Fr.call Fr.rf (ih h) (subL_rf _)
      · obtain ⟨σ4, e3, h⟩ := xbR_ex h
        have F3 : Fr (s_Bits_addPairs a1) σ σ4 := Fr.call Fr.rf (fr_Bits_add e3) (by simp [subL, inS, s_Bits_add, s_Bits_addPairs])
        obtain ⟨x5, -, h⟩ := xlet_ex h
        exact Fr.call F3 (ih h) (subL_rf _)
    · cases h
      exact Fr.rf
theorem fr_Bits_addPairs {a1 : Nat} {p2 : Int} {p3 : Int} {σ : xSt} {r : (xSt)} (h : f_Bits_addPairs a1 p2 p3 σ = some r) : Fr (s_Bits_addPairs a1) σ r := by
  unfold f_Bits_addPairs at h
  exact Fr.call Fr.rf (fr_Bits_addPairs_3 _ h) (subL_rf _)
theorem fr_Bits_byPairs {p2 : Int} {σ : xSt} {r : (Int × xSt)} (h : f_Bits_byPairs p2 σ = some r) : Fr s_Bits_byPairs σ r.2 := by
  unfold f_Bits_byPairs at h
  obtain ⟨σ1, e1, h⟩ := xlet_ex h
  have F1 : Fr s_Bits_byPairs σ σ1 := Fr.up Fr.rf e1 (rfl)
  obtain ⟨σ2, e2, h⟩ := xbR_ex h
  have F2 : Fr s_Bits_byPairs σ σ2 := Fr.call F1 (fr_Bits_addPairs e2) (rfl)
  cases h
  exact F2
theorem fr_X_pairs {σ : xSt} {r : (Int × xSt)} (h : f_X_pairs σ = some r) : Fr s_X_pairs σ r.2 := by
  unfold f_X_pairs at h
  obtain ⟨r1, σ2, e1, h⟩ := xbW_ex h
  have F1 : Fr s_X_pairs σ σ2 := Fr.call Fr.rf (fr_X_takeRow e1) (rfl)
  rcases ite_ex h with ⟨-, h⟩ | ⟨-, h⟩
  · cases h
    exact F1
  · obtain ⟨r3, σ4, e2, h⟩ := xbW_ex h
    have F2 : Fr s_X_pairs σ σ4 := Fr.call F1 (fr_Bits_byPairs e2) (rfl)
    cases h
    exact F2
theorem fr_Bits_note {p1 : Int} {p2 : Int} {σ : xSt} {r : (xSt)} (h : f_Bits_note p1 p2 σ = some r) : Fr s_Bits_note σ r := by
  unfold f_Bits_note at h
  obtain ⟨r1, -, h⟩ := xbR_ex h
  rcases ite_ex h with ⟨-, h⟩ | ⟨-, h⟩
  · cases h
    exact Fr.rf
  · obtain ⟨-, h⟩ := gu_ex h
    obtain ⟨σ2, e2, h⟩ := xlet_ex h
    have F2 : Fr s_Bits_note σ σ2 := Fr.up Fr.rf e2 (rfl)
    cases h
    exact F2
theorem fr_Bits_spare_101 {q_Bits_spare : (Int → Int → Int → xSt → Option (xSt))} (hq_Bits_spare : ∀ {z0 : Int} {z1 : Int} {z2 : Int} {σ : xSt} {r : (xSt)}, q_Bits_spare z0 z1 z2 σ = some r → Fr s_Bits_spare σ r) : ∀ (n : Nat) {l1 : Int} {l2 : Int} {l3 : Int} {l4 : Int} {l5 : Int} {l6 : Int} {σ : xSt} {r : (xSt)}, f_Bits_spare_101 q_Bits_spare n l1 l2 l3 l4 l5 l6 σ = some r → Fr s_Bits_spare σ r := by
  intro n
  induction n with
  | zero => exact fun h => nomatch h
  | succ n ih =>
    intro l1 l2 l3 l4 l5 l6 σ r h
    unfold f_Bits_spare_101 at h
    rcases ite_ex h with ⟨-, h⟩ | ⟨-, h⟩
    · obtain ⟨r9, -, h⟩ := xbR_ex h
      obtain ⟨r10, -, h⟩ := xbR_ex h
      rcases ite_ex h with ⟨-, h⟩ | ⟨-, h⟩
      · obtain ⟨r11, -, h⟩ := xbR_ex h
        obtain ⟨σ12, e4, h⟩ := xbR_ex h
        have F4 : Fr s_Bits_spare σ σ12 := Fr.call Fr.rf (fr_Bits_note e4) (rfl)
        obtain ⟨x13, -, h⟩ := xlet_ex h
        obtain ⟨x14, -, h⟩ := xlet_ex h
        exact Fr.call F4 (ih h) (subL_rf _)
      · obtain ⟨x15, -, h⟩ := xlet_ex h
        exact Fr.call Fr.rf (ih h) (subL_rf _)
    · obtain ⟨σ16, e5, h⟩ := xbR_ex h
      have F5 : Fr s_Bits_spare σ σ16 := Fr.call Fr.rf (hq_Bits_spare e5) (rfl)
      cases h
      exact F5
theorem fr_Bits_spare_33 {q_Bits_spare : (Int → Int → Int → xSt → Option (xSt))} (hq_Bits_spare : ∀ {z0 : Int} {z1 : Int} {z2 : Int} {σ : xSt} {r : (xSt)}, q_Bits_spare z0 z1 z2 σ = some r → Fr s_Bits_spare σ r) : ∀ (n : Nat) {l1 : Int} {l2 : Int} {l3 : Int} {l4 : Int} {l5 : Int} {l6 : Int} {σ : xSt} {r : (xSt)}, f_Bits_spare_33 q_Bits_spare n l1 l2 l3 l4 l5 l6 σ = some r → Fr s_Bits_spare σ r := by
  intro n
  induction n with
  | zero => exact fun h => nomatch h
  | succ n ih =>
    intro l1 l2 l3 l4 l5 l6 σ r h
    unfold f_Bits_spare_33 at h
    rcases ite_ex h with ⟨-, h⟩ | ⟨-, h⟩
    · obtain ⟨r3, -, h⟩ := xbR_ex h
      obtain ⟨r4, -, h⟩ := xbR_ex h
      obtain ⟨σ5, e3, h⟩ := xbR_ex h
      have F3 : Fr s_Bits_spare σ σ5 := Fr.call Fr.rf (fr_Bits_note e3) (rfl)
      obtain ⟨x6, -, h⟩ := xlet_ex h
      obtain ⟨x7, -, h⟩ := xlet_ex h
      exact Fr.call F3 (ih h) (subL_rf _)
    · obtain ⟨σ8, e4, h⟩ := xbR_ex h
      have F4 : Fr s_Bits_spare σ σ8 := Fr.call Fr.rf (hq_Bits_spare e4) (rfl)
      exact Fr.call F4 (fr_Bits_spare_101 hq_Bits_spare _ h) (subL_rf _)
theorem fr0_Bits_spare {q_Bits_spare : (Int → Int → Int → xSt → Option (xSt))} {p1 : Int} {p2 : Int} {p3 : Int} (hq_Bits_spare : ∀ {z0 : Int} {z1 : Int} {z2 : Int} {σ : xSt} {r : (xSt)}, q_Bits_spare z0 z1 z2 σ = some r → Fr s_Bits_spare σ r) {σ : xSt} {r : (xSt)} (h : f0_Bits_spare q_Bits_spare p1 p2 p3 σ = some r) : Fr s_Bits_spare σ r := by
  unfold f0_Bits_spare at h
  rcases ite_ex h with ⟨-, h⟩ | ⟨-, h⟩
  · cases h
    exact Fr.rf
  · rcases ite_ex h with ⟨-, h⟩ | ⟨-, h⟩
    · cases h
      exact Fr.rf
    · obtain ⟨σ1, e1, h⟩ := xbR_ex h
      have F1 : Fr s_Bits_spare σ σ1 := Fr.call Fr.rf (fr_Bits_addPairs e1) (rfl)
      obtain ⟨x2, -, h⟩ := xlet_ex h
      exact Fr.call F1 (fr_Bits_spare_33 hq_Bits_spare _ h) (subL_rf _)
theorem frg_Bits_spare : ∀ n, (∀ {p1 : Int} {p2 : Int} {p3 : Int} {σ : xSt} {r : (xSt)}, f_Bits_spare n p1 p2 p3 σ = some r → Fr s_Bits_spare σ r) := by
  intro n
  induction n with
  | zero => exact (fun h => nomatch h)
  | succ n ih => exact fun h => fr0_Bits_spare (q_Bits_spare := (g_Bits_spare n)) (fun h => ih h) h
theorem fr_Bits_spare {n : Nat} {p1 : Int} {p2 : Int} {p3 : Int} {σ : xSt} {r : (xSt)} (h : f_Bits_spare n p1 p2 p3 σ = some r) : Fr s_Bits_spare σ r := (frg_Bits_spare _) h
theorem fr_Bits_bySparing_7 : ∀ (n : Nat) {l2 : Int} {l3 : Int} {σ : xSt} {r : (Int × xSt)}, f_Bits_bySparing_7  n l2 l3 σ = some r → Fr s_Bits_bySparing σ r.2 := by
  intro n
  induction n with
  | zero => exact fun h => nomatch h
  | succ n ih =>
    intro l2 l3 σ r h
    unfold f_Bits_bySparing_7 at h
    rcases ite_ex h with ⟨-, h⟩ | ⟨-, h⟩
    · obtain ⟨r2, -, h⟩ := xbR_ex h
      obtain ⟨σ3, e2, h⟩ := xbR_ex h
      have F2 : Fr s_Bits_bySparing σ σ3 := Fr.call Fr.rf (fr_Bits_note e2) (rfl)
      obtain ⟨x4, -, h⟩ := xlet_ex h
      exact Fr.call F2 (ih h) (subL_rf _)
    · obtain ⟨σ5, e3, h⟩ := xbR_ex h
      have F3 : Fr s_Bits_bySparing σ σ5 := Fr.call Fr.rf (fr_Bits_spare e3) (rfl)
      cases h
      exact F3
theorem fr_Bits_bySparing {p2 : Int} {σ : xSt} {r : (Int × xSt)} (h : f_Bits_bySparing p2 σ = some r) : Fr s_Bits_bySparing σ r.2 := by
  unfold f_Bits_bySparing at h
  obtain ⟨σ1, e1, h⟩ := xlet_ex h
  have F1 : Fr s_Bits_bySparing σ σ1 := Fr.up Fr.rf e1 (rfl)
  exact Fr.call F1 (fr_Bits_bySparing_7 _ h) (subL_rf _)
theorem fr_X_spared {σ : xSt} {r : (Int × xSt)} (h : f_X_spared σ = some r) : Fr s_X_spared σ r.2 := by
  unfold f_X_spared at h
  obtain ⟨r1, σ2, e1, h⟩ := xbW_ex h
  have F1 : Fr s_X_spared σ σ2 := Fr.call Fr.rf (fr_X_takeRow e1) (rfl)
  rcases ite_ex h with ⟨-, h⟩ | ⟨-, h⟩
  · cases h
    exact F1
  · obtain ⟨r3, σ4, e2, h⟩ := xbW_ex h
    have F2 : Fr s_X_spared σ σ4 := Fr.call F1 (fr_Bits_bySparing e2) (rfl)
    cases h
    exact F2
theorem fr_Bits_addPairsBehind_6 : ∀ (n : Nat) {l2 : Int} {l3 : Int} {l4 : Int} {l5 : Int} {σ : xSt} {r : (xSt)}, f_Bits_addPairsBehind_6  n l2 l3 l4 l5 σ = some r → Fr s_Bits_addPairsBehind σ r := by
  intro n
  induction n with
  | zero => exact fun h => nomatch h
  | succ n ih =>
    intro l2 l3 l4 l5 σ r h
    unfold f_Bits_addPairsBehind_6 at h
    rcases ite_ex h with ⟨-, h⟩ | ⟨-, h⟩
    · obtain ⟨r1, -, h⟩ := xbR_ex h
      rcases ite_ex h with ⟨-, h⟩ | ⟨-, h⟩
      · obtain ⟨r2, -, h⟩ := xbR_ex h
        obtain ⟨σ3, e3, h⟩ := xbR_ex h
        have F3 : Fr s_Bits_addPairsBehind σ σ3 := Fr.call Fr.rf (fr_Bits_note e3) (rfl)
        obtain ⟨x4, -, h⟩ := xlet_ex h
        obtain ⟨x5, -, h⟩ := xlet_ex h
        exact Fr.call F3 (ih h) (subL_rf _)
      · obtain ⟨x6, -, h⟩ := xlet_ex h
        exact Fr.call Fr.rf (ih h) (subL_rf _)
    · obtain ⟨σ7, e4, h⟩ := xbR_ex h
      have F4 : Fr s_Bits_addPairsBehind σ σ7 := Fr.call Fr.rf (fr_Bits_addPairs e4) (rfl)
      cases h
      exact F4
theorem fr_Bits_addPairsBehind {p2 : Int} {p3 : Int} {σ : xSt} {r : (xSt)} (h : f_Bits_addPairsBehind p2 p3 σ = some r) : Fr s_Bits_addPairsBehind σ r := by
  unfold f_Bits_addPairsBehind at h
  exact Fr.call Fr.rf (fr_Bits_addPairsBehind_6 _ h) (subL_rf _)
theorem fr_Bits_byPasts {p2 : Int} {σ : xSt} {r : (Int × xSt)} (h : f_Bits_byPasts p2 σ = some r) : Fr s_Bits_byPasts σ r.2 := by
  unfold f_Bits_byPasts at h
  obtain ⟨σ1, e1, h⟩ := xlet_ex h
  have F1 : Fr s_Bits_byPasts σ σ1 := Fr.up Fr.rf e1 (rfl)
  obtain ⟨σ2, e2, h⟩ := xbR_ex h
  have F2 : Fr s_Bits_byPasts σ σ2 := Fr.call F1 (fr_Bits_addPairsBehind e2) (rfl)
  obtain ⟨σ3, e3, h⟩ := xbR_ex h
  have F3 : Fr s_Bits_byPasts σ σ3 := Fr.call F2 (fr_Bits_addPairsBehind e3) (rfl)
  cases h
  exact F3
theorem fr_X_pasts {σ : xSt} {r : (Int × xSt)} (h : f_X_pasts σ = some r) : Fr s_X_pasts σ r.2 := by
  unfold f_X_pasts at h
  obtain ⟨r1, σ2, e1, h⟩ := xbW_ex h
  have F1 : Fr s_X_pasts σ σ2 := Fr.call Fr.rf (fr_X_takeRow e1) (rfl)
  rcases ite_ex h with ⟨-, h⟩ | ⟨-, h⟩
  · cases h
    exact F1
  · obtain ⟨r3, σ4, e2, h⟩ := xbW_ex h
    have F2 : Fr s_X_pasts σ σ4 := Fr.call F1 (fr_Bits_byPasts e2) (rfl)
    cases h
    exact F2
theorem fr_Bits_addLowest_5 : ∀ (n : Nat) {l1 : Int} {l4 : Int} {σ : xSt} {r : (xSt)}, f_Bits_addLowest_5  n l1 l4 σ = some r → Fr s_Bits_addLowest σ r := by
  intro n
  induction n with
  | zero => exact fun h => nomatch h
  | succ n ih =>
    intro l1 l4 σ r h
    unfold f_Bits_addLowest_5 at h
    rcases ite_ex h with ⟨-, h⟩ | ⟨-, h⟩
    · cases h
      exact Fr.rf
    · obtain ⟨σ2, e1, h⟩ := xbR_ex h
      have F1 : Fr s_Bits_addLowest σ σ2 := Fr.call Fr.rf (fr_Bits_add e1) (rfl)
      obtain ⟨x3, -, h⟩ := xlet_ex h
      exact Fr.call F1 (ih h) (subL_rf _)
theorem fr_Bits_addLowest {p1 : Int} {p2 : Int} {σ : xSt} {r : (xSt)} (h : f_Bits_addLowest p1 p2 σ = some r) : Fr s_Bits_addLowest σ r := by
  unfold f_Bits_addLowest at h
  obtain ⟨x1, -, h⟩ := xlet_ex h
  exact Fr.call Fr.rf (fr_Bits_addLowest_5 _ h) (subL_rf _)
theorem fr_Bits_byCounting_50 : ∀ (n : Nat) {l4 : Int} {l6 : Int} {l8 : Int} {σ : xSt} {r : (Int × xSt)}, f_Bits_byCounting_50  n l4 l6 l8 σ = some r → Fr s_Bits_byCounting σ r.2 := by
  intro n
  induction n with
  | zero => exact fun h => nomatch h
  | succ n ih =>
    intro l4 l6 l8 σ r h
    unfold f_Bits_byCounting_50 at h
    rcases ite_ex h with ⟨-, h⟩ | ⟨-, h⟩
    · cases h
      exact Fr.rf
    · obtain ⟨x7, -, h⟩ := xlet_ex h
      rcases ite_ex h with ⟨-, h⟩ | ⟨-, h⟩
      · obtain ⟨x8, -, h⟩ := xlet_ex h
        exact Fr.call Fr.rf (ih h) (subL_rf _)
      · rcases ite_ex h with ⟨-, h⟩ | ⟨-, h⟩
        · obtain ⟨σ9, e1, h⟩ := xbR_ex h
          have F1 : Fr s_Bits_byCounting σ σ9 := Fr.call Fr.rf (fr_Bits_addLowest e1) (rfl)
          cases h
          exact F1
        · obtain ⟨x10, -, h⟩ := xlet_ex h
          obtain ⟨x11, -, h⟩ := xlet_ex h
          exact Fr.call Fr.rf (ih h) (subL_rf _)
theorem fr_Bits_byCounting_10 : ∀ (n : Nat) {l2 : Int} {l3 : Int} {l4 : Int} {σ : xSt} {r : (Int × xSt)}, f_Bits_byCounting_10  n l2 l3 l4 σ = some r → Fr s_Bits_byCounting σ r.2 := by
  intro n
  induction n with
  | zero => exact fun h => nomatch h
  | succ n ih =>
    intro l2 l3 l4 σ r h
    unfold f_Bits_byCounting_10 at h
    rcases ite_ex h with ⟨-, h⟩ | ⟨-, h⟩
    · obtain ⟨r2, -, h⟩ := xbR_ex h
      obtain ⟨x3, -, h⟩ := xlet_ex h
      obtain ⟨x4, -, h⟩ := xlet_ex h
      exact Fr.call Fr.rf (ih h) (subL_rf _)
    · obtain ⟨r5, -, h⟩ := xbR_ex h
      obtain ⟨r6, -, h⟩ := xbR_ex h
      exact Fr.call Fr.rf (fr_Bits_byCounting_50 _ h) (subL_rf _)
theorem fr_Bits_byCounting {p2 : Int} {σ : xSt} {r : (Int × xSt)} (h : f_Bits_byCounting p2 σ = some r) : Fr s_Bits_byCounting σ r.2 := by
  unfold f_Bits_byCounting at h
  obtain ⟨σ1, e1, h⟩ := xlet_ex h
  have F1 : Fr s_Bits_byCounting σ σ1 := Fr.up Fr.rf e1 (rfl)
  exact Fr.call F1 (fr_Bits_byCounting_10 _ h) (subL_rf _)
theorem fr_X_counted {σ : xSt} {r : (Int × xSt)} (h : f_X_counted σ = some r) : Fr s_X_counted σ r.2 := by
  unfold f_X_counted at h
  obtain ⟨r1, σ2, e1, h⟩ := xbW_ex h
  have F1 : Fr s_X_counted σ σ2 := Fr.call Fr.rf (fr_X_takeRow e1) (rfl)
  rcases ite_ex h with ⟨-, h⟩ | ⟨-, h⟩
  · cases h
    exact F1
  · obtain ⟨r3, σ4, e2, h⟩ := xbW_ex h
    have F2 : Fr s_X_counted σ σ4 := Fr.call F1 (fr_Bits_byCounting e2) (rfl)
    cases h
    exact F2
theorem fr_X_countedMean_36 {l1 : Int} {l2 : Int} {l3 : Int} {l4 : Int} {s0 : Int} {σ : xSt} {r : (Option Int × xSt)} (h : f_X_countedMean_36 l1 l2 l3 l4 s0 σ = some r) : Fr s_X_countedMean σ r.2 := by
  unfold f_X_countedMean_36 at h
  rcases ite_ex h with ⟨-, h⟩ | ⟨-, h⟩
  · cases h
    exact Fr.rf
  · obtain ⟨r1, -, h⟩ := xbR_ex h
    rcases ite_ex h with ⟨-, h⟩ | ⟨-, h⟩
    · cases h
      exact Fr.rf
    · obtain ⟨r2, -, h⟩ := xbR_ex h
      obtain ⟨r3, -, h⟩ := xbR_ex h
      obtain ⟨r4, σ5, e4, h⟩ := xbW_ex h
      have F4 : Fr s_X_countedMean σ σ5 := Fr.call Fr.rf (fr_X_told e4) (rfl)
      cases h
      exact F4
theorem fr_X_countedMean_35 {l1 : Int} {l2 : Int} {l3 : Int} {l4 : Int} {σ : xSt} {r : (Option Int × xSt)} (h : f_X_countedMean_35 l1 l2 l3 l4 σ = some r) : Fr s_X_countedMean σ r.2 := by
  unfold f_X_countedMean_35 at h
  exact Fr.call Fr.rf (fr_X_countedMean_36 h) (subL_rf _)
theorem fr_X_countedMean {p1 : Int} {p2 : Int} {p3 : Int} {p4 : Int} {σ : xSt} {r : (Option Int × xSt)} (h : f_X_countedMean p1 p2 p3 p4 σ = some r) : Fr s_X_countedMean σ r.2 := by
  unfold f_X_countedMean at h
  rcases ite_ex h with ⟨-, h⟩ | ⟨-, h⟩
  · exact Fr.call Fr.rf (fr_X_countedMean_35 h) (subL_rf _)
  · rcases ite_ex h with ⟨-, h⟩ | ⟨-, h⟩
    · exact Fr.call Fr.rf (fr_X_countedMean_35 h) (subL_rf _)
    · rcases ite_ex h with ⟨-, h⟩ | ⟨-, h⟩
      · exact Fr.call Fr.rf (fr_X_countedMean_35 h) (subL_rf _)
      · rcases ite_ex h with ⟨-, h⟩ | ⟨-, h⟩
        · exact Fr.call Fr.rf (fr_X_countedMean_35 h) (subL_rf _)
        · rcases ite_ex h with ⟨-, h⟩ | ⟨-, h⟩
          · exact Fr.call Fr.rf (fr_X_countedMean_35 h) (subL_rf _)
          · rcases ite_ex h with ⟨-, h⟩ | ⟨-, h⟩
            · exact Fr.call Fr.rf (fr_X_countedMean_35 h) (subL_rf _)
            · exact Fr.call Fr.rf (fr_X_countedMean_36 h) (subL_rf _)
theorem fr_Shares_shareOut_98 {k71 : (Int → Int → Int → Int → xSt → Option (Int × xSt))} (hk71 : ∀ {z0 : Int} {z1 : Int} {z2 : Int} {z3 : Int} {σ : xSt} {r : (Int × xSt)}, k71 z0 z1 z2 z3 σ = some r → Fr s_Shares_shareOut σ r.2) : ∀ (n : Nat) {l3 : Int} {l4 : Int} {l5 : Int} {l6 : Int} {l7 : Int} {σ : xSt} {r : (Int × xSt)}, f_Shares_shareOut_98 k71 n l3 l4 l5 l6 l7 σ = some r → Fr s_Shares_shareOut σ r.2 := by
  intro n
  induction n with
  | zero => exact fun h => nomatch h
  | succ n ih =>
    intro l3 l4 l5 l6 l7 σ r h
    unfold f_Shares_shareOut_98 at h
    rcases ite_ex h with ⟨-, h⟩ | ⟨-, h⟩
    · rcases ite_ex h with ⟨-, h⟩ | ⟨-, h⟩
      · obtain ⟨-, h⟩ := gu_ex h
        obtain ⟨-, h⟩ := gu_ex h
        obtain ⟨σ7, e1, h⟩ := xlet_ex h
        have F1 : Fr s_Shares_shareOut σ σ7 := Fr.up Fr.rf e1 (rfl)
        obtain ⟨-, h⟩ := gu_ex h
        rcases ite_ex h with ⟨-, h⟩ | ⟨-, h⟩
        · obtain ⟨x8, -, h⟩ := xlet_ex h
          exact Fr.call F1 (ih h) (subL_rf _)
        · obtain ⟨-, h⟩ := gu_ex h
          obtain ⟨-, h⟩ := gu_ex h
          obtain ⟨σ9, e2, h⟩ := xlet_ex h
          have F2 : Fr s_Shares_shareOut σ σ9 := Fr.up F1 e2 (rfl)
          obtain ⟨x10, -, h⟩ := xlet_ex h
          rcases ite_ex h with ⟨-, h⟩ | ⟨-, h⟩
          · obtain ⟨σ11, e3, h⟩ := xlet_ex h
            have F3 : Fr s_Shares_shareOut σ σ11 := Fr.up F2 e3 (rfl)
            cases h
            exact F3
          · obtain ⟨x12, -, h⟩ := xlet_ex h
            exact Fr.call F2 (ih h) (subL_rf _)
      · obtain ⟨x13, -, h⟩ := xlet_ex h
        exact Fr.call Fr.rf (hk71 h) (rfl)
    · obtain ⟨x14, -, h⟩ := xlet_ex h
      exact Fr.call Fr.rf (hk71 h) (rfl)
theorem fr_Shares_shareOut_71 : ∀ (n : Nat) {l3 : Int} {l4 : Int} {l5 : Int} {l6 : Int} {σ : xSt} {r : (Int × xSt)}, f_Shares_shareOut_71  n l3 l4 l5 l6 σ = some r → Fr s_Shares_shareOut σ r.2 := by
  intro n
  induction n with
  | zero => exact fun h => nomatch h
  | succ n ih =>
    intro l3 l4 l5 l6 σ r h
    unfold f_Shares_shareOut_71 at h
    rcases ite_ex h with ⟨-, h⟩ | ⟨-, h⟩
    · rcases ite_ex h with ⟨-, h⟩ | ⟨-, h⟩
      · obtain ⟨-, h⟩ := gu_ex h
        obtain ⟨x6, -, h⟩ := xlet_ex h
        exact Fr.call Fr.rf (fr_Shares_shareOut_98 (fun h => ih h) _ h) (subL_rf _)
      · cases h
        exact Fr.rf
    · cases h
      exact Fr.rf
theorem fr_Shares_shareOut_10 : ∀ (n : Nat) {l3 : Int} {l4 : Int} {l5 : Int} {σ : xSt} {r : (Int × xSt)}, f_Shares_shareOut_10  n l3 l4 l5 σ = some r → Fr s_Shares_shareOut σ r.2 := by
  intro n
  induction n with
  | zero => exact fun h => nomatch h
  | succ n ih =>
    intro l3 l4 l5 σ r h
    unfold f_Shares_shareOut_10 at h
    rcases ite_ex h with ⟨-, h⟩ | ⟨-, h⟩
    · rcases ite_ex h with ⟨-, h⟩ | ⟨-, h⟩
      · obtain ⟨r2, -, h⟩ := xbR_ex h
        obtain ⟨-, h⟩ := gu_ex h
        obtain ⟨σ3, e2, h⟩ := xlet_ex h
        have F2 : Fr s_Shares_shareOut σ σ3 := Fr.up Fr.rf e2 (rfl)
        obtain ⟨-, h⟩ := gu_ex h
        rcases ite_ex h with ⟨-, h⟩ | ⟨-, h⟩
        · obtain ⟨σ4, e3, h⟩ := xlet_ex h
          have F3 : Fr s_Shares_shareOut σ σ4 := Fr.up F2 e3 (rfl)
          cases h
          exact F3
        · obtain ⟨x5, -, h⟩ := xlet_ex h
          exact Fr.call F2 (ih h) (subL_rf _)
      · exact Fr.call Fr.rf (fr_Shares_shareOut_71 _ h) (subL_rf _)
    · exact Fr.call Fr.rf (fr_Shares_shareOut_71 _ h) (subL_rf _)
theorem fr_Shares_shareOut {p3 : Int} {σ : xSt} {r : (Int × xSt)} (h : f_Shares_shareOut p3 σ = some r) : Fr s_Shares_shareOut σ r.2 := by
  unfold f_Shares_shareOut at h
  obtain ⟨r1, -, h⟩ := xbR_ex h
  exact Fr.call Fr.rf (fr_Shares_shareOut_10 _ h) (subL_rf _)
theorem fr_X_shared {σ : xSt} {r : (Int × xSt)} (h : f_X_shared σ = some r) : Fr s_X_shared σ r.2 := by
  unfold f_X_shared at h
  obtain ⟨r1, σ2, e1, h⟩ := xbW_ex h
  have F1 : Fr s_X_shared σ σ2 := Fr.call Fr.rf (fr_X_takeRow e1) (rfl)
  rcases ite_ex h with ⟨-, h⟩ | ⟨-, h⟩
  · cases h
    exact F1
  · obtain ⟨r3, -, h⟩ := xbR_ex h
    rcases ite_ex h with ⟨-, h⟩ | ⟨-, h⟩
    · cases h
      exact F1
    · obtain ⟨r4, σ5, e3, h⟩ := xbW_ex h
      have F3 : Fr s_X_shared σ σ5 := Fr.call F1 (fr_Shares_shareOut e3) (rfl)
      cases h
      exact F3
theorem fr_Shares_tellFewest_83 : ∀ (n : Nat) {l3 : Int} {l4 : Int} {l5 : Int} {l7 : Int} {l9 : Int} {σ : xSt} {r : (xSt)}, f_Shares_tellFewest_83  n l3 l4 l5 l7 l9 σ = some r → Fr s_Shares_tellFewest σ r := by
  intro n
  induction n with
  | zero => exact fun h => nomatch h
  | succ n ih =>
    intro l3 l4 l5 l7 l9 σ r h
    unfold f_Shares_tellFewest_83 at h
    rcases ite_ex h with ⟨-, h⟩ | ⟨-, h⟩
    · obtain ⟨r9, -, h⟩ := xbR_ex h
      obtain ⟨x10, -, h⟩ := xlet_ex h
      obtain ⟨x11, -, h⟩ := xlet_ex h
      exact Fr.call Fr.rf (ih h) (subL_rf _)
    · obtain ⟨r12, σ13, e2, h⟩ := xbW_ex h
      have F2 : Fr s_Shares_tellFewest σ σ13 := Fr.call Fr.rf (fr_Fraction_put e2) (rfl)
      cases h
      exact F2
theorem fr_Shares_tellFewest_49 : ∀ (n : Nat) {l3 : Int} {l4 : Int} {l5 : Int} {l7 : Int} {l9 : Int} {σ : xSt} {r : (xSt)}, f_Shares_tellFewest_49  n l3 l4 l5 l7 l9 σ = some r → Fr s_Shares_tellFewest σ r := by
  intro n
  induction n with
  | zero => exact fun h => nomatch h
  | succ n ih =>
    intro l3 l4 l5 l7 l9 σ r h
    unfold f_Shares_tellFewest_49 at h
    rcases ite_ex h with ⟨-, h⟩ | ⟨-, h⟩
    · obtain ⟨r6, -, h⟩ := xbR_ex h
      obtain ⟨x7, -, h⟩ := xlet_ex h
      obtain ⟨x8, -, h⟩ := xlet_ex h
      exact Fr.call Fr.rf (ih h) (subL_rf _)
    · exact Fr.call Fr.rf (fr_Shares_tellFewest_83 _ h) (subL_rf _)
theorem fr_Shares_tellFewest_29 {l2 : Int} {l3 : Int} {σ : xSt} {r : (xSt)} (h : f_Shares_tellFewest_29 l2 l3 σ = some r) : Fr s_Shares_tellFewest σ r := by
  unfold f_Shares_tellFewest_29 at h
  obtain ⟨r4, -, h⟩ := xbR_ex h
  obtain ⟨x5, -, h⟩ := xlet_ex h
  exact Fr.call Fr.rf (fr_Shares_tellFewest_49 _ h) (subL_rf _)
theorem fr_Shares_tellFewest_8 : ∀ (n : Nat) {l2 : Int} {l3 : Int} {σ : xSt} {r : (xSt)}, f_Shares_tellFewest_8  n l2 l3 σ = some r → Fr s_Shares_tellFewest σ r := by
  intro n
  induction n with
  | zero => exact fun h => nomatch h
  | succ n ih =>
    intro l2 l3 σ r h
    unfold f_Shares_tellFewest_8 at h
    rcases ite_ex h with ⟨-, h⟩ | ⟨-, h⟩
    · rcases ite_ex h with ⟨-, h⟩ | ⟨-, h⟩
      · obtain ⟨x2, -, h⟩ := xlet_ex h
        obtain ⟨x3, -, h⟩ := xlet_ex h
        exact Fr.call Fr.rf (ih h) (subL_rf _)
      · exact Fr.call Fr.rf (fr_Shares_tellFewest_29 h) (subL_rf _)
    · exact Fr.call Fr.rf (fr_Shares_tellFewest_29 h) (subL_rf _)
theorem fr_Shares_tellFewest {σ : xSt} {r : (xSt)} (h : f_Shares_tellFewest σ = some r) : Fr s_Shares_tellFewest σ r := by
  unfold f_Shares_tellFewest at h
  obtain ⟨r1, -, h⟩ := xbR_ex h
  exact Fr.call Fr.rf (fr_Shares_tellFewest_8 _ h) (subL_rf _)
theorem fr_X_fewest {p1 : Int} {σ : xSt} {r : (Option Int × xSt)} (h : f_X_fewest p1 σ = some r) : Fr s_X_fewest σ r.2 := by
  unfold f_X_fewest at h
  obtain ⟨r1, -, h⟩ := xbR_ex h
  rcases ite_ex h with ⟨-, h⟩ | ⟨-, h⟩
  · cases h
    exact Fr.rf
  · obtain ⟨r2, -, h⟩ := xbR_ex h
    rcases ite_ex h with ⟨-, h⟩ | ⟨-, h⟩
    · cases h
      exact Fr.rf
    · obtain ⟨σ3, e3, h⟩ := xbR_ex h
      have F3 : Fr s_X_fewest σ σ3 := Fr.call Fr.rf (fr_Shares_tellFewest e3) (rfl)
      obtain ⟨r4, -, h⟩ := xbR_ex h
      cases h
      exact F3
theorem fr_Shares_tellOff_13 : ∀ (n : Nat) {l1 : Int} {l3 : Int} {l5 : Int} {l7 : Int} {σ : xSt} {r : (xSt)}, f_Shares_tellOff_13  n l1 l3 l5 l7 σ = some r → Fr s_Shares_tellOff σ r := by
  intro n
  induction n with
  | zero => exact fun h => nomatch h
  | succ n ih =>
    intro l1 l3 l5 l7 σ r h
    unfold f_Shares_tellOff_13 at h
    rcases ite_ex h with ⟨-, h⟩ | ⟨-, h⟩
    · obtain ⟨r2, -, h⟩ := xbR_ex h
      obtain ⟨r3, -, h⟩ := xbR_ex h
      obtain ⟨x4, -, h⟩ := xlet_ex h
      obtain ⟨x5, -, h⟩ := xlet_ex h
      exact Fr.call Fr.rf (ih h) (subL_rf _)
    · obtain ⟨r6, σ7, e3, h⟩ := xbW_ex h
      have F3 : Fr s_Shares_tellOff σ σ7 := Fr.call Fr.rf (fr_Fraction_put e3) (rfl)
      cases h
      exact F3
theorem fr_Shares_tellOff {p1 : Int} {σ : xSt} {r : (xSt)} (h : f_Shares_tellOff p1 σ = some r) : Fr s_Shares_tellOff σ r := by
  unfold f_Shares_tellOff at h
  obtain ⟨r1, -, h⟩ := xbR_ex h
  exact Fr.call Fr.rf (fr_Shares_tellOff_13 _ h) (subL_rf _)
theorem fr_X_off {p1 : Int} {p2 : Int} {σ : xSt} {r : (Option Int × xSt)} (h : f_X_off p1 p2 σ = some r) : Fr s_X_off σ r.2 := by
  unfold f_X_off at h
  obtain ⟨r1, -, h⟩ := xbR_ex h
  rcases ite_ex h with ⟨-, h⟩ | ⟨-, h⟩
  · cases h
    exact Fr.rf
  · obtain ⟨r2, -, h⟩ := xbR_ex h
    rcases ite_ex h with ⟨-, h⟩ | ⟨-, h⟩
    · cases h
      exact Fr.rf
    · obtain ⟨r3, -, h⟩ := xbR_ex h
      rcases ite_ex h with ⟨-, h⟩ | ⟨-, h⟩
      · cases h
        exact Fr.rf
      · obtain ⟨σ4, e4, h⟩ := xbR_ex h
        have F4 : Fr s_X_off σ σ4 := Fr.call Fr.rf (fr_Shares_tellOff e4) (rfl)
        obtain ⟨r5, -, h⟩ := xbR_ex h
        cases h
        exact F4
theorem fr_Odds_mixIn_87 {k41 : (Int → Int → Int → xSt → Option (xSt))} {k57 : (Int → Int → Int → Int → xSt → Option (xSt))} {l2 : Int} {l3 : Int} {l4 : Int} {l5 : Int} {s0 : Int} (hk41 : ∀ {z0 : Int} {z1 : Int} {z2 : Int} {σ : xSt} {r : (xSt)}, k41 z0 z1 z2 σ = some r → Fr s_Odds_mixIn σ r) (hk57 : ∀ {z0 : Int} {z1 : Int} {z2 : Int} {z3 : Int} {σ : xSt} {r : (xSt)}, k57 z0 z1 z2 z3 σ = some r → Fr s_Odds_mixIn σ r) {σ : xSt} {r : (xSt)} (h : f_Odds_mixIn_87 k41 k57 l2 l3 l4 l5 s0 σ = some r) : Fr s_Odds_mixIn σ r := by
  unfold f_Odds_mixIn_87 at h
  obtain ⟨r5, -, h⟩ := xbR_ex h
  rcases ite_ex h with ⟨-, h⟩ | ⟨-, h⟩
  · obtain ⟨x6, -, h⟩ := xlet_ex h
    exact Fr.call Fr.rf (hk57 h) (rfl)
  · obtain ⟨-, h⟩ := gu_ex h
    obtain ⟨-, h⟩ := gu_ex h
    obtain ⟨r7, -, h⟩ := xbR_ex h
    obtain ⟨-, h⟩ := gu_ex h
    obtain ⟨σ8, e3, h⟩ := xlet_ex h
    have F3 : Fr s_Odds_mixIn σ σ8 := Fr.up Fr.rf e3 (rfl)
    obtain ⟨x9, -, h⟩ := xlet_ex h
    exact Fr.call F3 (hk57 h) (rfl)
theorem fr_Odds_mixIn_57 {k41 : (Int → Int → Int → xSt → Option (xSt))} (hk41 : ∀ {z0 : Int} {z1 : Int} {z2 : Int} {σ : xSt} {r : (xSt)}, k41 z0 z1 z2 σ = some r → Fr s_Odds_mixIn σ r) : ∀ (n : Nat) {l2 : Int} {l3 : Int} {l4 : Int} {l5 : Int} {σ : xSt} {r : (xSt)}, f_Odds_mixIn_57 k41 n l2 l3 l4 l5 σ = some r → Fr s_Odds_mixIn σ r := by
  intro n
  induction n with
  | zero => exact fun h => nomatch h
  | succ n ih =>
    intro l2 l3 l4 l5 σ r h
    unfold f_Odds_mixIn_57 at h
    rcases ite_ex h with ⟨-, h⟩ | ⟨-, h⟩
    · rcases ite_ex h with ⟨-, h⟩ | ⟨-, h⟩
      · exact Fr.call Fr.rf (fr_Odds_mixIn_87 hk41 (fun h => ih h) h) (subL_rf _)
      · exact Fr.call Fr.rf (fr_Odds_mixIn_87 hk41 (fun h => ih h) h) (subL_rf _)
    · obtain ⟨x4, -, h⟩ := xlet_ex h
      exact Fr.call Fr.rf (hk41 h) (rfl)
theorem fr_Odds_mixIn_41 : ∀ (n : Nat) {l2 : Int} {l3 : Int} {l4 : Int} {σ : xSt} {r : (xSt)}, f_Odds_mixIn_41  n l2 l3 l4 σ = some r → Fr s_Odds_mixIn σ r := by
  intro n
  induction n with
  | zero => exact fun h => nomatch h
  | succ n ih =>
    intro l2 l3 l4 σ r h
    unfold f_Odds_mixIn_41 at h
    rcases ite_ex h with ⟨-, h⟩ | ⟨-, h⟩
    · rcases ite_ex h with ⟨-, h⟩ | ⟨-, h⟩
      · exact Fr.call Fr.rf (fr_Odds_mixIn_57 (fun h => ih h) _ h) (subL_rf _)
      · cases h
        exact Fr.rf
    · cases h
      exact Fr.rf
theorem fr_Odds_mixIn_3 : ∀ (n : Nat) {l2 : Int} {l3 : Int} {l4 : Int} {σ : xSt} {r : (xSt)}, f_Odds_mixIn_3  n l2 l3 l4 σ = some r → Fr s_Odds_mixIn σ r := by
  intro n
  induction n with
  | zero => exact fun h => nomatch h
  | succ n ih =>
    intro l2 l3 l4 σ r h
    unfold f_Odds_mixIn_3 at h
    rcases ite_ex h with ⟨-, h⟩ | ⟨-, h⟩
    · obtain ⟨-, h⟩ := gu_ex h
      obtain ⟨-, h⟩ := gu_ex h
      obtain ⟨σ1, e1, h⟩ := xlet_ex h
      have F1 : Fr s_Odds_mixIn σ σ1 := Fr.up Fr.rf e1 (rfl)
      obtain ⟨-, h⟩ := gu_ex h
      obtain ⟨σ2, e2, h⟩ := xlet_ex h
      have F2 : Fr s_Odds_mixIn σ σ2 := Fr.up F1 e2 (rfl)
      obtain ⟨x3, -, h⟩ := xlet_ex h
      exact Fr.call F2 (ih h) (subL_rf _)
    · exact Fr.call Fr.rf (fr_Odds_mixIn_41 _ h) (subL_rf _)
theorem fr_Odds_mixIn {p2 : Int} {p3 : Int} {σ : xSt} {r : (xSt)} (h : f_Odds_mixIn p2 p3 σ = some r) : Fr s_Odds_mixIn σ r := by
  unfold f_Odds_mixIn at h
  exact Fr.call Fr.rf (fr_Odds_mixIn_3 _ h) (subL_rf _)
theorem fr_Odds_mix_31 {k8 : (Int → Int → Int → xSt → Option (xSt))} {l2 : Int} {l3 : Int} {l4 : Int} {s0 : Int} {s1 : Int} (hk8 : ∀ {z0 : Int} {z1 : Int} {z2 : Int} {σ : xSt} {r : (xSt)}, k8 z0 z1 z2 σ = some r → Fr s_Odds_mix σ r) {σ : xSt} {r : (xSt)} (h : f_Odds_mix_31 k8 l2 l3 l4 s0 s1 σ = some r) : Fr s_Odds_mix σ r := by
  unfold f_Odds_mix_31 at h
  obtain ⟨-, h⟩ := gu_ex h
  obtain ⟨σ2, e1, h⟩ := xlet_ex h
  have F1 : Fr s_Odds_mix σ σ2 := Fr.up Fr.rf e1 (rfl)
  obtain ⟨x3, -, h⟩ := xlet_ex h
  exact Fr.call F1 (hk8 h) (rfl)
theorem fr_Odds_mix_41 : ∀ (n : Nat) {l2 : Int} {l3 : Int} {l4 : Int} {σ : xSt} {r : (xSt)}, f_Odds_mix_41  n l2 l3 l4 σ = some r → Fr s_Odds_mix σ r := by
  intro n
  induction n with
  | zero => exact fun h => nomatch h
  | succ n ih =>
    intro l2 l3 l4 σ r h
    unfold f_Odds_mix_41 at h
    rcases ite_ex h with ⟨-, h⟩ | ⟨-, h⟩
    · rcases ite_ex h with ⟨-, h⟩ | ⟨-, h⟩
      · obtain ⟨r4, -, h⟩ := xbR_ex h
        obtain ⟨σ5, e2, h⟩ := xlet_ex h
        have F2 : Fr s_Odds_mix σ σ5 := Fr.up Fr.rf e2 (rfl)
        obtain ⟨σ6, e3, h⟩ := xbR_ex h
        have F3 : Fr s_Odds_mix σ σ6 := Fr.call F2 (fr_Odds_mixIn e3) (rfl)
        obtain ⟨x7, -, h⟩ := xlet_ex h
        exact Fr.call F3 (ih h) (subL_rf _)
      · obtain ⟨x8, -, h⟩ := xlet_ex h
        exact Fr.call Fr.rf (ih h) (subL_rf _)
    · cases h
      exact Fr.rf
theorem fr_Odds_mix_8 : ∀ (n : Nat) {l2 : Int} {l3 : Int} {l4 : Int} {σ : xSt} {r : (xSt)}, f_Odds_mix_8  n l2 l3 l4 σ = some r → Fr s_Odds_mix σ r := by
  intro n
  induction n with
  | zero => exact fun h => nomatch h
  | succ n ih =>
    intro l2 l3 l4 σ r h
    unfold f_Odds_mix_8 at h
    rcases ite_ex h with ⟨-, h⟩ | ⟨-, h⟩
    · rcases ite_ex h with ⟨-, h⟩ | ⟨-, h⟩
      · exact Fr.call Fr.rf (fr_Odds_mix_31 (fun h => ih h) h) (subL_rf _)
      · exact Fr.call Fr.rf (fr_Odds_mix_31 (fun h => ih h) h) (subL_rf _)
    · exact Fr.call Fr.rf (fr_Odds_mix_41 _ h) (subL_rf _)
theorem fr_Odds_mix {p2 : Int} {p3 : Int} {σ : xSt} {r : (xSt)} (h : f_Odds_mix p2 p3 σ = some r) : Fr s_Odds_mix σ r := by
  unfold f_Odds_mix at h
  obtain ⟨σ1, e1, h⟩ := xlet_ex h
  have F1 : Fr s_Odds_mix σ σ1 := Fr.up Fr.rf e1 (rfl)
  exact Fr.call F1 (fr_Odds_mix_8 _ h) (subL_rf _)
theorem fr_X_mixed {p1 : Int} {p2 : Int} {p3 : Int} {σ : xSt} {r : (Option Int × xSt)} (h : f_X_mixed p1 p2 p3 σ = some r) : Fr s_X_mixed σ r.2 := by
  unfold f_X_mixed at h
  obtain ⟨r1, -, h⟩ := xbR_ex h
  obtain ⟨r2, -, h⟩ := xbR_ex h
  rcases ite_ex h with ⟨-, h⟩ | ⟨-, h⟩
  · cases h
    exact Fr.rf
  · obtain ⟨r3, -, h⟩ := xbR_ex h
    rcases ite_ex h with ⟨-, h⟩ | ⟨-, h⟩
    · cases h
      exact Fr.rf
    · obtain ⟨σ4, e4, h⟩ := xbR_ex h
      have F4 : Fr s_X_mixed σ σ4 := Fr.call Fr.rf (fr_Odds_mix e4) (rfl)
      obtain ⟨r5, -, h⟩ := xbR_ex h
      obtain ⟨r6, σ7, e6, h⟩ := xbW_ex h
      have F6 : Fr s_X_mixed σ σ7 := Fr.call F4 (fr_X_told e6) (rfl)
      cases h
      exact F6
theorem fr_X_luck_52 : ∀ (n : Nat) {l1 : Int} {l3 : Int} {l4 : Int} {l5 : Int} {l7 : Int} {σ : xSt} {r : (Option Int × xSt)}, f_X_luck_52  n l1 l3 l4 l5 l7 σ = some r → Fr s_X_luck σ r.2 := by
  intro n
  induction n with
  | zero => exact fun h => nomatch h
  | succ n ih =>
    intro l1 l3 l4 l5 l7 σ r h
    unfold f_X_luck_52 at h
    rcases ite_ex h with ⟨-, h⟩ | ⟨-, h⟩
    · obtain ⟨r3, σ4, e1, h⟩ := xbW_ex h
      have F1 : Fr s_X_luck σ σ4 := Fr.call Fr.rf (fr_X_told e1) (rfl)
      cases h
      exact F1
    · rcases ite_ex h with ⟨-, h⟩ | ⟨-, h⟩
      · obtain ⟨x5, -, h⟩ := xlet_ex h
        exact Fr.call Fr.rf (ih h) (subL_rf _)
      · obtain ⟨r6, -, h⟩ := xbR_ex h
        obtain ⟨x7, -, h⟩ := xlet_ex h
        obtain ⟨x8, -, h⟩ := xlet_ex h
        exact Fr.call Fr.rf (ih h) (subL_rf _)
theorem fr_X_luck {p1 : Int} {p2 : Int} {p3 : Int} {σ : xSt} {r : (Option Int × xSt)} (h : f_X_luck p1 p2 p3 σ = some r) : Fr s_X_luck σ r.2 := by
  unfold f_X_luck at h
  rcases ite_ex h with ⟨-, h⟩ | ⟨-, h⟩
  · cases h
    exact Fr.rf
  · rcases ite_ex h with ⟨-, h⟩ | ⟨-, h⟩
    · cases h
      exact Fr.rf
    · rcases ite_ex h with ⟨-, h⟩ | ⟨-, h⟩
      · cases h
        exact Fr.rf
      · rcases ite_ex h with ⟨-, h⟩ | ⟨-, h⟩
        · cases h
          exact Fr.rf
        · obtain ⟨r1, -, h⟩ := xbR_ex h
          rcases ite_ex h with ⟨-, h⟩ | ⟨-, h⟩
          · cases h
            exact Fr.rf
          · obtain ⟨x2, -, h⟩ := xlet_ex h
            exact Fr.call Fr.rf (fr_X_luck_52 _ h) (subL_rf _)
theorem fr_X_runs_87 : ∀ (n : Nat) {l1 : Int} {l2 : Int} {l3 : Int} {l4 : Int} {l6 : Int} {σ : xSt} {r : (Int × xSt)}, f_X_runs_87  n l1 l2 l3 l4 l6 σ = some r → Fr s_X_runs σ r.2 := by
  intro n
  induction n with
  | zero => exact fun h => nomatch h
  | succ n ih =>
    intro l1 l2 l3 l4 l6 σ r h
    unfold f_X_runs_87 at h
    rcases ite_ex h with ⟨-, h⟩ | ⟨-, h⟩
    · obtain ⟨r9, -, h⟩ := xbR_ex h
      obtain ⟨r10, σ11, e2, h⟩ := xbW_ex h
      have F2 : Fr s_X_runs σ σ11 := Fr.call Fr.rf (fr_Fraction_put e2) (rfl)
      cases h
      exact F2
    · obtain ⟨r12, -, h⟩ := xbR_ex h
      obtain ⟨x13, -, h⟩ := xlet_ex h
      obtain ⟨x14, -, h⟩ := xlet_ex h
      exact Fr.call Fr.rf (ih h) (subL_rf _)
theorem fr_X_runs_22 : ∀ (n : Nat) {l1 : Int} {l2 : Int} {l3 : Int} {l4 : Int} {σ : xSt} {r : (Int × xSt)}, f_X_runs_22  n l1 l2 l3 l4 σ = some r → Fr s_X_runs σ r.2 := by
  intro n
  induction n with
  | zero => exact fun h => nomatch h
  | succ n ih =>
    intro l1 l2 l3 l4 σ r h
    unfold f_X_runs_22 at h
    rcases ite_ex h with ⟨-, h⟩ | ⟨-, h⟩
    · rcases ite_ex h with ⟨-, h⟩ | ⟨-, h⟩
      · obtain ⟨-, h⟩ := gu_ex h
        obtain ⟨x3, -, h⟩ := xlet_ex h
        rcases ite_ex h with ⟨-, h⟩ | ⟨-, h⟩
        · obtain ⟨x4, -, h⟩ := xlet_ex h
          obtain ⟨x5, -, h⟩ := xlet_ex h
          exact Fr.call Fr.rf (ih h) (subL_rf _)
        · obtain ⟨-, h⟩ := gu_ex h
          obtain ⟨-, h⟩ := gu_ex h
          rcases ite_ex h with ⟨-, h⟩ | ⟨-, h⟩
          · obtain ⟨x6, -, h⟩ := xlet_ex h
            exact Fr.call Fr.rf (ih h) (subL_rf _)
          · obtain ⟨x7, -, h⟩ := xlet_ex h
            obtain ⟨x8, -, h⟩ := xlet_ex h
            exact Fr.call Fr.rf (ih h) (subL_rf _)
      · exact Fr.call Fr.rf (fr_X_runs_87 _ h) (subL_rf _)
    · exact Fr.call Fr.rf (fr_X_runs_87 _ h) (subL_rf _)
theorem fr_X_runs {σ : xSt} {r : (Int × xSt)} (h : f_X_runs σ = some r) : Fr s_X_runs σ r.2 := by
  unfold f_X_runs at h
  obtain ⟨r1, σ2, e1, h⟩ := xbW_ex h
  have F1 : Fr s_X_runs σ σ2 := Fr.call Fr.rf (fr_X_takeRow e1) (rfl)
  rcases ite_ex h with ⟨-, h⟩ | ⟨-, h⟩
  · cases h
    exact F1
  · exact Fr.call F1 (fr_X_runs_22 _ h) (subL_rf _)
theorem fr_X_seldom {p1 : Int} {σ : xSt} {r : (Option Int × xSt)} (h : f_X_seldom p1 σ = some r) : Fr s_X_seldom σ r.2 := by
  unfold f_X_seldom at h
  rcases ite_ex h with ⟨-, h⟩ | ⟨-, h⟩
  · cases h
    exact Fr.rf
  · obtain ⟨r1, -, h⟩ := xbR_ex h
    rcases ite_ex h with ⟨-, h⟩ | ⟨-, h⟩
    · cases h
      exact Fr.rf
    · obtain ⟨r2, -, h⟩ := xbR_ex h
      cases h
      exact Fr.rf
theorem fr_Best_weigh_178 {l1 : Int} {l4 : Int} {l5 : Int} {l13 : Int} {l15 : Int} {σ : xSt} {r : (xSt)} (h : f_Best_weigh_178 l1 l4 l5 l13 l15 σ = some r) : Fr s_Best_weigh σ r := by
  unfold f_Best_weigh_178 at h
  obtain ⟨σ11, e1, h⟩ := xlet_ex h
  have F1 : Fr s_Best_weigh σ σ11 := Fr.up Fr.rf e1 (rfl)
  obtain ⟨σ12, e2, h⟩ := xlet_ex h
  have F2 : Fr s_Best_weigh σ σ12 := Fr.up F1 e2 (rfl)
  obtain ⟨σ13, e3, h⟩ := xlet_ex h
  have F3 : Fr s_Best_weigh σ σ13 := Fr.up F2 e3 (rfl)
  obtain ⟨σ14, e4, h⟩ := xlet_ex h
  have F4 : Fr s_Best_weigh σ σ14 := Fr.up F3 e4 (rfl)
  obtain ⟨σ15, e5, h⟩ := xlet_ex h
  have F5 : Fr s_Best_weigh σ σ15 := Fr.up F4 e5 (rfl)
  obtain ⟨σ16, e6, h⟩ := xlet_ex h
  have F6 : Fr s_Best_weigh σ σ16 := Fr.up F5 e6 (rfl)
  cases h
  exact F6
