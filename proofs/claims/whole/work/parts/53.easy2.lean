/-! calls that tell what is kept, 2; the tape -/
theorem m_sortOf {σ : xSt} {p : Int} (h0 : 0 ≤ p) (h3 : p < 80) : f_M_sortOf p σ = some (σ 113 (42 + 8 * p.toNat)) := by
  unfold f_M_sortOf
  rw [w32_o (x := 8 * p) (by omega) (by omega), w32_o (by omega) (by omega), if_pos (by omega), show (42 + 8 * p).toNat = 42 + 8 * p.toNat by omega]
theorem m_whichOf {σ : xSt} {p : Int} (h0 : 0 ≤ p) (h3 : p < 80) : f_M_whichOf p σ = some (σ 113 (43 + 8 * p.toNat)) := by
  unfold f_M_whichOf
  rw [w32_o (x := 8 * p) (by omega) (by omega), w32_o (x := 42 + 8 * p) (by omega) (by omega), w32_o (by omega) (by omega), if_pos (by omega), show (42 + 8 * p + 1).toNat = 43 + 8 * p.toNat by omega]
theorem m_nextOf {σ : xSt} {p s : Int} (h0 : 0 ≤ p) (h3 : p < 80) (h4 : 0 ≤ s) (h5 : s < 6) : f_M_nextOf p s σ = some (σ 113 (44 + 8 * p.toNat + s.toNat)) := by
  unfold f_M_nextOf
  rw [w32_o (x := 8 * p) (by omega) (by omega), w32_o (x := 42 + 8 * p) (by omega) (by omega), w32_o (x := 42 + 8 * p + 2) (by omega) (by omega), w32_o (by omega) (by omega), if_pos (by omega), show (42 + 8 * p + 2 + s).toNat = 44 + 8 * p.toNat + s.toNat by omega]
theorem m_isNode {σ : xSt} (p : Int) : f_M_isNode p σ = some (if 0 ≤ p ∧ p < σ 113 41 then 1 else 0) := by
  unfold f_M_isNode
  (repeat' split) <;> first | rfl | (exfalso; omega)
theorem x_hasNode {σ : xSt} {w : Nat} (h3 : σ w 0 ≤ 80) (p : Int) : f_Way_hasNode w p σ = some (if 0 ≤ p ∧ p < σ w 0 then 1 else 0) := by
  unfold f_Way_hasNode
  (repeat' split) <;> first | rfl | (exfalso; omega)
theorem x_sortAt {σ : xSt} (h3 : σ 16 0 ≤ 80) (p : Int) : f_Way_sortAt p σ = some (if 0 ≤ p ∧ p < σ 16 0 then σ 17 p.toNat else -1) := by
  unfold f_Way_sortAt
  rw [x_hasNode h3]
  simp only [xbR]
  (repeat' split) <;> first | rfl | (exfalso; omega)
theorem x_whichAt {σ : xSt} (h3 : σ 16 0 ≤ 80) (p : Int) : f_Way_whichAt p σ = some (if 0 ≤ p ∧ p < σ 16 0 then σ 18 p.toNat else -1) := by
  unfold f_Way_whichAt
  rw [x_hasNode h3]
  simp only [xbR]
  (repeat' split) <;> first | rfl | (exfalso; omega)
theorem x_parentOf {σ : xSt} (h3 : σ 16 0 ≤ 80) (p : Int) : f_Way_parentOf p σ = some (if 0 ≤ p ∧ p < σ 16 0 then σ 19 p.toNat else -1) := by
  unfold f_Way_parentOf
  rw [x_hasNode h3]
  simp only [xbR]
  (repeat' split) <;> first | rfl | (exfalso; omega)
theorem x_sideTo {σ : xSt} (h3 : σ 16 0 ≤ 80) (p : Int) : f_Way_sideTo p σ = some (if 0 ≤ p ∧ p < σ 16 0 then σ 20 p.toNat else -1) := by
  unfold f_Way_sideTo
  rw [x_hasNode h3]
  simp only [xbR]
  (repeat' split) <;> first | rfl | (exfalso; omega)
theorem x_nextAt {σ : xSt} (h3 : σ 16 0 ≤ 80) (p s : Int) : f_Way_nextAt p s σ = some (if (0 ≤ p ∧ p < σ 16 0) ∧ 0 ≤ s ∧ s < 6 then σ 21 (6 * p.toNat + s.toNat) else -1) := by
  unfold f_Way_nextAt
  rw [x_hasNode h3]
  simp only [x_isWithin]
  by_cases hp : 0 ≤ p ∧ p < σ 16 0
  · by_cases hs : 0 ≤ s ∧ s < 6
    · simp (disch := omega) only [if_pos, if_neg, if_true, if_false, xbR, w32_o]
      rw [show (p * 6 + s).toNat = 6 * p.toNat + s.toNat by omega]
    · simp (disch := omega) only [if_pos, if_neg, if_true, if_false, xbR]
  · simp (disch := omega) only [if_pos, if_neg, if_true, if_false, xbR]
theorem Inv0.nodes {σ : xSt} (h : Inv0 σ) : σ 16 0 = σ 113 41 ∧ 0 ≤ σ 16 0 ∧ σ 16 0 ≤ 80 := ⟨h.2.2.1.1.1, h.2.2.1.1.2.1, h.2.2.1.1.2.2.1⟩
theorem Inv0.nd {σ : xSt} (h : Inv0 σ) {p : Int} (h0 : 0 ≤ p) (h1 : p < σ 16 0) : σ 17 p.toNat = σ 113 (42 + 8 * p.toNat) ∧ σ 18 p.toNat = σ 113 (43 + 8 * p.toNat) ∧ (∀ s : Nat, s < 6 → σ 21 (6 * p.toNat + s) = σ 113 (44 + 8 * p.toNat + s)) ∧
    (∀ s : Nat, s < 6 → (σ 17 p.toNat = 2 ∧ (s : Int) < σ 10 (σ 18 p.toNat).toNat) ∨ σ 21 (6 * p.toNat + s) = -1) ∧
    (σ 17 p.toNat = 0 ∧ 0 ≤ σ 18 p.toNat ∧ σ 18 p.toNat < σ 7 2 ∨ σ 17 p.toNat = 1 ∧ σ 18 p.toNat = -1 ∨ σ 17 p.toNat = 2 ∧ 0 ≤ σ 18 p.toNat ∧ σ 18 p.toNat < σ 7 1) := h.2.2.1.1.2.2.2.1 p.toNat (by omega)
theorem sim_side {n : Nat} : ∀ p1 p2 : Int, in32 p1 → in32 p2 → SimR (InvN (n + 1)) (InvN n) (f_X_side p1 p2) (f_M_side p1 p2) := by
  intro p1 p2 _ _
  refine simR0 (fun σ h => ?_)
  obtain ⟨ht, ht0, ht3⟩ := h.things
  obtain ⟨σ1, hl, hF, hi, -, hop⟩ := lay_ok (inv_thr (v := 0) h)
  have e7 : ∀ k, σ1 7 k = σ 7 k := fun k => hF 7 k rfl
  have e10 : ∀ k, σ1 10 k = σ 10 k := fun k => hF 10 k rfl
  have e12 : ∀ k, σ1 12 k = σ 12 k := fun k => hF 12 k rfl
  obtain ⟨ht1, -, -⟩ := hi.things
  have e71 := e7 1
  unfold f_X_side f_M_side
  simp only [x_sidesOf ht3, x_isWithin, x_partsOf ht3]
  by_cases hp : 0 ≤ p1 ∧ p1 < σ 7 1
  · have hth := hi.th hp.1 (by rw [e7]; exact hp.2)
    have hs6 := hth.2.2.1
    have hs7 := hth.1
    rw [e10] at hs6 hs7
    by_cases hq : 0 ≤ p2 ∧ p2 < σ 10 p1.toNat
    · have hs8 := (hth.2.2.2.2.2.2.1 p2.toNat (by rw [e10]; omega)).1
      rw [e12] at hs8
      refine ⟨σ 12 (6 * p1.toNat + p2.toNat), σ1, ?_, ?_, hi, hF 0 7 rfl⟩
      · simp (disch := omega) only [if_pos, if_neg, if_true, if_false, xbR, xbW, xlet, upS_rd]
      · simp (disch := omega) only [hl, m_isThing, m_sidesOf, m_sideOf, if_pos, if_neg, if_true, if_false, xbR, xbW, xlet, upS_rd]
        rw [hs8]
    · refine ⟨-1, σ1, ?_, ?_, hi, hF 0 7 rfl⟩
      · simp (disch := omega) only [if_pos, if_neg, if_true, if_false, xbR, xbW, xlet, upS_rd]
      · simp (disch := omega) only [hl, m_isThing, m_sidesOf, if_pos, if_neg, if_true, if_false, xbR, xbW, xlet, upS_rd]
        (repeat' split) <;> first | rfl | (exfalso; omega)
  · refine ⟨-1, σ1, ?_, ?_, hi, hF 0 7 rfl⟩
    · simp (disch := omega) only [if_pos, if_neg, if_true, if_false, xbR, xbW, xlet, upS_rd]
    · simp (disch := omega) only [hl, m_isThing, if_pos, if_neg, if_true, if_false, xbR, xbW, xlet, upS_rd]
theorem sim_share {n : Nat} : ∀ p1 p2 : Int, in32 p1 → in32 p2 → SimR (InvN (n + 1)) (InvN n) (f_X_share p1 p2) (f_M_share p1 p2) := by
  intro p1 p2 _ _
  refine simR0 (fun σ h => ?_)
  obtain ⟨ht, ht0, ht3⟩ := h.ends
  obtain ⟨σ1, hl, hF, hi, -, hop⟩ := lay_ok (inv_thr (v := 0) h)
  have e7 : ∀ k, σ1 7 k = σ 7 k := fun k => hF 7 k rfl
  have e14 : ∀ k, σ1 14 k = σ 14 k := fun k => hF 14 k rfl
  have e15 : ∀ k, σ1 15 k = σ 15 k := fun k => hF 15 k rfl
  obtain ⟨ht1, -, -⟩ := hi.ends
  have e72 := e7 2
  unfold f_X_share f_M_share f_Table_hasShare f_Table_shareAbove f_Table_shareBelow
  simp only [x_hasEnd ht3, x_isWithin]
  by_cases hp : 0 ≤ p1 ∧ p1 < σ 7 2
  · obtain ⟨g1, g2, g3, g4, g5, -⟩ := hi.en hp.1 (by rw [e7]; exact hp.2)
    rw [e14] at g1 g3
    rw [e15] at g2 g5
    by_cases hq : 0 ≤ p2 ∧ p2 ≤ 1
    · have i1 : (28 + 2 * p1 + 1).toNat = 29 + 2 * p1.toNat := by omega
      by_cases hb : 0 < σ 15 p1.toNat
      · refine ⟨if p2 = 0 then σ 14 p1.toNat else σ 15 p1.toNat, σ1, ?_, ?_, hi, hF 0 7 rfl⟩
        · simp (disch := omega) only [if_pos, if_neg, if_true, if_false, xbR, xbW, xlet, upS_rd]
          split <;> rfl
        · simp (disch := omega) only [hl, m_isEnd, m_isIn, if_pos, if_neg, if_true, if_false, xbR, xbW, xlet, upS_rd, w32_o, i1]
          split
          · rename_i hz
            subst hz
            rw [show (28 + 2 * p1 + 0).toNat = 28 + 2 * p1.toNat by omega, ← g1]
          · rw [show (28 + 2 * p1 + p2).toNat = 29 + 2 * p1.toNat by omega, ← g2]
      · refine ⟨-1, σ1, ?_, ?_, hi, hF 0 7 rfl⟩
        · simp (disch := omega) only [if_pos, if_neg, if_true, if_false, xbR, xbW, xlet, upS_rd]
        · simp (disch := omega) only [hl, m_isEnd, m_isIn, if_pos, if_neg, if_true, if_false, xbR, xbW, xlet, upS_rd, w32_o, i1]
    · refine ⟨-1, σ1, ?_, ?_, hi, hF 0 7 rfl⟩
      · by_cases hb : 0 < σ 15 p1.toNat
        · simp (disch := omega) only [if_pos, if_neg, if_true, if_false, xbR, xbW, xlet, upS_rd]
        · simp (disch := omega) only [if_pos, if_neg, if_true, if_false, xbR, xbW, xlet, upS_rd]
      · simp (disch := omega) only [hl, m_isEnd, m_isIn, if_pos, if_neg, if_true, if_false, xbR, xbW, xlet, upS_rd]
  · refine ⟨-1, σ1, ?_, ?_, hi, hF 0 7 rfl⟩
    · simp (disch := omega) only [if_pos, if_neg, if_true, if_false, xbR, xbW, xlet, upS_rd]
    · simp (disch := omega) only [hl, m_isEnd, if_pos, if_neg, if_true, if_false, xbR, xbW, xlet, upS_rd]
theorem sim_node {n : Nat} : ∀ p1 : Int, in32 p1 → SimR (InvN (n + 1)) (InvN n) (f_X_node p1) (f_M_node p1) := by
  intro p1 _
  refine simR0 (fun σ h => ?_)
  obtain ⟨ht, ht0, ht3⟩ := h.nodes
  unfold f_X_node f_M_node
  simp only [x_sortAt ht3]
  by_cases hp : 0 ≤ p1 ∧ p1 < σ 16 0
  · refine ⟨σ 17 p1.toNat, upS σ 111 0 0, ?_, ?_, inv_thr h, rfl⟩
    · simp (disch := omega) only [if_pos, if_neg, if_true, if_false, xbR, xbW, xlet, upS_rd]
    · simp (disch := omega) only [m_isNode, m_sortOf, if_pos, if_neg, if_true, if_false, xbR, xbW, xlet, upS_rd]
      rw [(h.nd hp.1 hp.2).1]
  · refine ⟨-1, upS σ 111 0 0, ?_, ?_, inv_thr h, rfl⟩
    · simp (disch := omega) only [if_pos, if_neg, if_true, if_false, xbR, xbW, xlet, upS_rd]
    · simp (disch := omega) only [m_isNode, if_pos, if_neg, if_true, if_false, xbR, xbW, xlet, upS_rd]
theorem sim_nodeOf {n : Nat} : ∀ p1 : Int, in32 p1 → SimR (InvN (n + 1)) (InvN n) (f_X_nodeOf p1) (f_M_nodeOf p1) := by
  intro p1 _
  refine simR0 (fun σ h => ?_)
  obtain ⟨ht, ht0, ht3⟩ := h.nodes
  unfold f_X_nodeOf f_M_nodeOf
  simp only [x_whichAt ht3]
  by_cases hp : 0 ≤ p1 ∧ p1 < σ 16 0
  · refine ⟨σ 18 p1.toNat, upS σ 111 0 0, ?_, ?_, inv_thr h, rfl⟩
    · simp (disch := omega) only [if_pos, if_neg, if_true, if_false, xbR, xbW, xlet, upS_rd]
    · simp (disch := omega) only [m_isNode, m_whichOf, if_pos, if_neg, if_true, if_false, xbR, xbW, xlet, upS_rd]
      rw [(h.nd hp.1 hp.2).2.1]
  · refine ⟨-1, upS σ 111 0 0, ?_, ?_, inv_thr h, rfl⟩
    · simp (disch := omega) only [if_pos, if_neg, if_true, if_false, xbR, xbW, xlet, upS_rd]
    · simp (disch := omega) only [m_isNode, if_pos, if_neg, if_true, if_false, xbR, xbW, xlet, upS_rd]
theorem sim_next {n : Nat} : ∀ p1 p2 : Int, in32 p1 → in32 p2 → SimR (InvN (n + 1)) (InvN n) (f_X_next p1 p2) (f_M_next p1 p2) := by
  intro p1 p2 _ _
  refine simR0 (fun σ h => ?_)
  obtain ⟨ht, ht0, ht3⟩ := h.nodes
  obtain ⟨hu, hu0, hu3⟩ := h.things
  unfold f_X_next f_M_next
  simp only [x_nextAt ht3]
  by_cases hp : 0 ≤ p1 ∧ p1 < σ 16 0
  · obtain ⟨n1, n2, n3, n4, n5⟩ := h.nd hp.1 hp.2
    by_cases hsrt : σ 17 p1.toNat = 2
    · have hw : 0 ≤ σ 18 p1.toNat ∧ σ 18 p1.toNat < σ 7 1 := by
        rcases n5 with ⟨z, -⟩ | ⟨z, -⟩ | ⟨-, z⟩
        · omega
        · omega
        · exact z
      have hth := h.th hw.1 hw.2
      have hs6 := hth.2.2.1
      have hs7 := hth.1
      have m1 : σ 113 (42 + 8 * p1.toNat) = 2 := n1.symm.trans hsrt
      have m2 : σ 113 (43 + 8 * p1.toNat) = σ 18 p1.toNat := n2.symm
      by_cases hq : 0 ≤ p2 ∧ p2 < σ 10 (σ 18 p1.toNat).toNat
      · refine ⟨σ 21 (6 * p1.toNat + p2.toNat), upS σ 111 0 0, ?_, ?_, inv_thr h, rfl⟩
        · simp (disch := omega) only [if_pos, if_neg, if_true, if_false, xbR, xbW, xlet, upS_rd]
        · simp (disch := omega) only [m_isNode, m_sortOf, m_whichOf, m_sidesOf, m_nextOf, if_pos, if_neg, if_true, if_false, xbR, xbW, xlet, upS_rd, m1, m2]
          rw [n3 p2.toNat (by omega)]
      · refine ⟨-1, upS σ 111 0 0, ?_, ?_, inv_thr h, rfl⟩
        · by_cases hq2 : 0 ≤ p2 ∧ p2 < 6
          · simp (disch := omega) only [if_pos, if_neg, if_true, if_false, xbR, xbW, xlet, upS_rd]
            rcases n4 p2.toNat (by omega) with ⟨-, z⟩ | z
            · exfalso
              omega
            · rw [z]
          · simp (disch := omega) only [if_pos, if_neg, if_true, if_false, xbR, xbW, xlet, upS_rd]
        · simp (disch := omega) only [m_isNode, m_sortOf, m_whichOf, m_sidesOf, if_pos, if_neg, if_true, if_false, xbR, xbW, xlet, upS_rd, m1, m2]
          (repeat' split) <;> first | rfl | (exfalso; omega)
    · refine ⟨-1, upS σ 111 0 0, ?_, ?_, inv_thr h, rfl⟩
      · by_cases hq2 : 0 ≤ p2 ∧ p2 < 6
        · simp (disch := omega) only [if_pos, if_neg, if_true, if_false, xbR, xbW, xlet, upS_rd]
          rcases n4 p2.toNat (by omega) with ⟨z, -⟩ | z
          · exact absurd z hsrt
          · rw [z]
        · simp (disch := omega) only [if_pos, if_neg, if_true, if_false, xbR, xbW, xlet, upS_rd]
      · have m1 : ¬ σ 113 (42 + 8 * p1.toNat) = 2 := fun z => hsrt (n1.trans z)
        simp (disch := omega) only [m_isNode, m_sortOf, if_pos, if_neg, if_true, if_false, xbR, xbW, xlet, upS_rd]
  · refine ⟨-1, upS σ 111 0 0, ?_, ?_, inv_thr h, rfl⟩
    · simp (disch := omega) only [if_pos, if_neg, if_true, if_false, xbR, xbW, xlet, upS_rd]
    · simp (disch := omega) only [m_isNode, if_pos, if_neg, if_true, if_false, xbR, xbW, xlet, upS_rd]
theorem sim_count {n : Nat} : ∀ p1 : Int, in32 p1 → SimR (InvN (n + 1)) (InvN n) (f_X_count p1) (f_M_count p1) := by
  intro p1 _
  refine simR0 (fun σ h => ?_)
  obtain ⟨σ1, hl, hF, hi, -, hop⟩ := lay_ok (inv_thr (v := 0) h)
  have e7 : ∀ k, σ1 7 k = σ 7 k := fun k => hF 7 k rfl
  have e16 : ∀ k, σ1 16 k = σ 16 k := fun k => hF 16 k rfl
  have e01 : σ1 0 1 = σ 0 1 := hF 0 1 rfl
  have e2 := hi.1.2.2.1
  obtain ⟨ht, -, -⟩ := hi.nodes
  obtain ⟨hu, -, -⟩ := hi.things
  obtain ⟨hv, -, -⟩ := hi.ends
  rw [e7] at hu hv hop
  rw [e16] at ht
  rw [e01] at e2
  have hx : f_X_count p1 σ = some (if p1 = 0 then σ 7 1 else if p1 = 1 then σ 7 2 else if p1 = 2 then σ 16 0 else if p1 = 3 then σ 7 3 else if p1 = 4 then σ 0 1 else -1) := by
    unfold f_X_count
    (repeat' split) <;> first | rfl | (exfalso; omega)
  refine ⟨_, σ1, hx, ?_, hi, hF 0 7 rfl⟩
  unfold f_M_count f_M_things f_M_ends
  simp only [hl, xlet, xbR, ← hu, ← hv, ← ht, hop, ← e2]
  (repeat' split) <;> first | rfl | (exfalso; omega)
