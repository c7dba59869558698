/-! printed by wip/whole/mk50.py -/
theorem fr_M_count {p1 : Int} {σ : xSt} {r : (Int × xSt)} (h : f_M_count p1 σ = some r) : Fr s_M_count σ r.2 := by
  unfold f_M_count at h
  obtain ⟨σ1, e1, h⟩ := xlet_ex h
  have F1 : Fr s_M_count σ σ1 := Fr.up Fr.rf e1 (rfl)
  obtain ⟨σ2, e2, h⟩ := xbR_ex h
  have F2 : Fr s_M_count σ σ2 := Fr.call F1 (fr_M_lay e2) (rfl)
  rcases ite_ex h with ⟨-, h⟩ | ⟨-, h⟩
  · obtain ⟨r3, -, h⟩ := xbR_ex h
    cases h
    exact F2
  · rcases ite_ex h with ⟨-, h⟩ | ⟨-, h⟩
    · obtain ⟨r4, -, h⟩ := xbR_ex h
      cases h
      exact F2
    · rcases ite_ex h with ⟨-, h⟩ | ⟨-, h⟩
      · cases h
        exact F2
      · rcases ite_ex h with ⟨-, h⟩ | ⟨-, h⟩
        · cases h
          exact F2
        · rcases ite_ex h with ⟨-, h⟩ | ⟨-, h⟩
          · cases h
            exact F2
          · cases h
            exact F2
theorem fr_State_copyFrom {a0 : Nat} {a1 : Nat} {σ : xSt} {r : (xSt)} (h : f_State_copyFrom a0 a1 σ = some r) : Fr (s_State_copyFrom a0 a1) σ r := by
  unfold f_State_copyFrom at h
  obtain ⟨σ1, e1, h⟩ := xbR_ex h
  have F1 : Fr (s_State_copyFrom a0 a1) σ σ1 := Fr.call Fr.rf (fr_Table_copyFrom e1) (by simp [subL, inS, s_Table_copyFrom, s_State_copyFrom])
  obtain ⟨σ2, e2, h⟩ := xbR_ex h
  have F2 : Fr (s_State_copyFrom a0 a1) σ σ2 := Fr.call F1 (fr_Way_copyFrom e2) (by simp [subL, inS, s_Way_copyFrom, s_State_copyFrom])
  obtain ⟨σ3, e3, h⟩ := xbR_ex h
  have F3 : Fr (s_State_copyFrom a0 a1) σ σ3 := Fr.call F2 (fr_Sentence_copyFrom e3) (by simp [subL, inS, s_Sentence_copyFrom, s_State_copyFrom])
  cases h
  exact F3
