/-! printed by wip/whole/mk06.py: facts of fields and methods by number -/
theorem cl_at : ∀ ci, ci < 13 → vwCl[ci]? = some (cnm ci, TT ci, nf ci) := by
  intro ci h
  match ci, h with
  | 0, _ => exact rfl
  | 1, _ => exact rfl
  | 2, _ => exact rfl
  | 3, _ => exact rfl
  | 4, _ => exact rfl
  | 5, _ => exact rfl
  | 6, _ => exact rfl
  | 7, _ => exact rfl
  | 8, _ => exact rfl
  | 9, _ => exact rfl
  | 10, _ => exact rfl
  | 11, _ => exact rfl
  | 12, _ => exact rfl
  | n + 13, h => omega
theorem uw0 : (List.range 14).all (fun k => wIs ((([364, 366, 368, 370, 372, 374, 376, 378, 380, 382, 384, 386, 388, 390] : List Nat)).getD k 0) (u_lay RX0 TX0 k) && goodWord (u_lay RX0 TX0 k)) = true := by decide +kernel
theorem uw1 : (List.range 3).all (fun k => wIs ((([319, 321, 323] : List Nat)).getD k 0) (u_lay RX1 TX1 k) && goodWord (u_lay RX1 TX1 k)) = true := by decide +kernel
theorem uw2 : (List.range 3).all (fun k => wIs ((([271, 273, 275] : List Nat)).getD k 0) (u_lay RX2 TX2 k) && goodWord (u_lay RX2 TX2 k)) = true := by decide +kernel
theorem uw3 : (List.range 8).all (fun k => wIs ((([293, 295, 297, 299, 301, 303, 305, 307] : List Nat)).getD k 0) (u_lay RX3 TX3 k) && goodWord (u_lay RX3 TX3 k)) = true := by decide +kernel
theorem uw4 : (List.range 13).all (fun k => wIs ((([233, 235, 237, 239, 241, 243, 245, 247, 249, 251, 253, 255, 257] : List Nat)).getD k 0) (u_lay RX4 TX4 k) && goodWord (u_lay RX4 TX4 k)) = true := by decide +kernel
theorem uw5 : (List.range 5).all (fun k => wIs ((([183, 185, 187, 189, 191] : List Nat)).getD k 0) (u_lay RX5 TX5 k) && goodWord (u_lay RX5 TX5 k)) = true := by decide +kernel
theorem uw6 : (List.range 2).all (fun k => wIs ((([335, 337] : List Nat)).getD k 0) (u_lay RX6 TX6 k) && goodWord (u_lay RX6 TX6 k)) = true := by decide +kernel
theorem uw7 : (List.range 4).all (fun k => wIs ((([201, 203, 205, 207] : List Nat)).getD k 0) (u_lay RX7 TX7 k) && goodWord (u_lay RX7 TX7 k)) = true := by decide +kernel
theorem uw8 : (List.range 12).all (fun k => wIs ((([113, 115, 117, 119, 121, 123, 125, 127, 129, 131, 133, 135] : List Nat)).getD k 0) (u_lay RX8 TX8 k) && goodWord (u_lay RX8 TX8 k)) = true := by decide +kernel
theorem uw9 : (List.range 11).all (fun k => wIs ((([54, 56, 58, 60, 62, 64, 66, 68, 70, 72, 74] : List Nat)).getD k 0) (u_lay RX9 TX9 k) && goodWord (u_lay RX9 TX9 k)) = true := by decide +kernel
theorem uw10 : (List.range 7).all (fun k => wIs ((([156, 158, 160, 162, 164, 166, 168] : List Nat)).getD k 0) (u_lay RX10 TX10 k) && goodWord (u_lay RX10 TX10 k)) = true := by decide +kernel
theorem uw11 : (List.range 19).all (fun k => wIs ((([412, 414, 416, 418, 420, 422, 424, 426, 428, 430, 432, 434, 436, 438, 440, 442, 444, 446, 448] : List Nat)).getD k 0) (u_lay RX11 TX11 k) && goodWord (u_lay RX11 TX11 k)) = true := by decide +kernel
theorem uw12 : (List.range 75).all (fun k => wIs ((([1547, 1549, 1551, 1553, 1555, 1557, 1559, 1561, 1563, 1565, 1567, 1569, 1571, 1573, 1575, 1577, 1579, 1581, 1583, 1585, 1587, 1589, 1591, 1593, 1595, 1597, 1599, 1601, 1603, 1605, 1607, 1609, 1611, 1613, 1615, 1617, 1619, 1621, 1623, 1625, 1627, 1629, 1631, 1633, 1635, 1637, 1639, 1641, 1643, 1645, 1647, 1649, 1651, 1653, 1655, 1657, 1659, 1661, 1663, 1665, 1667, 1669, 1671, 1673, 1675, 1677, 1679, 1681, 1683, 1685, 1687, 1689, 1691, 1693, 1695] : List Nat)).getD k 0) (u_lay RX12 TX12 k) && goodWord (u_lay RX12 TX12 k)) = true := by decide +kernel
/-- the good words of the tables -/
def GW : List Cond := lw_tbl.filter goodWord
theorem GW_of {w : Cond} (h : w ∈ tables_1) (hg : goodWord w = true) : w ∈ GW := List.mem_filter.mpr ⟨List.mem_append_right _ h, hg⟩
theorem GW_good {w : Cond} (h : w ∈ GW) : goodWord w = true := (List.mem_filter.mp h).2
theorem uw_of {N : Nat} {L : List Nat} {R : String} {T : u_T} (h : (List.range N).all (fun k => wIs (L.getD k 0) (u_lay R T k) && goodWord (u_lay R T k)) = true) : ∀ w ∈ u_ws R T N, w ∈ GW := by
  intro w hw
  obtain ⟨k, hk, rfl⟩ := List.mem_map.mp hw
  have h1 := List.all_eq_true.mp h k hk
  simp only [Bool.and_eq_true] at h1
  exact GW_of (wIs_mem h1.1) h1.2
theorem uw_in : ∀ ci, ci < 13 → ∀ w ∈ u_ws (cnm ci) (TT ci) (nf ci), w ∈ GW := by
  intro ci h
  match ci, h with
  | 0, _ => exact uw_of uw0
  | 1, _ => exact uw_of uw1
  | 2, _ => exact uw_of uw2
  | 3, _ => exact uw_of uw3
  | 4, _ => exact uw_of uw4
  | 5, _ => exact uw_of uw5
  | 6, _ => exact uw_of uw6
  | 7, _ => exact uw_of uw7
  | 8, _ => exact uw_of uw8
  | 9, _ => exact uw_of uw9
  | 10, _ => exact uw_of uw10
  | 11, _ => exact uw_of uw11
  | 12, _ => exact uw_of uw12
  | n + 13, h => omega
def fTy : Nat → Nat → FieldType
  | 0 => tyX0
  | 1 => tyX1
  | 2 => tyX2
  | 3 => tyX3
  | 4 => tyX4
  | 5 => tyX5
  | 6 => tyX6
  | 7 => tyX7
  | 8 => tyX8
  | 9 => tyX9
  | 10 => tyX10
  | 11 => tyX11
  | 12 => tyX12
  | _ => fun _ => .int
theorem fTy_ok : ∀ ci, ci < 13 → ∀ k, k < nf ci → parseFieldDescriptor (TT ci k).2.2.1 = some (fTy ci k) := by
  intro ci h
  match ci, h with
  | 0, _ => exact tyX0_ok
  | 1, _ => exact tyX1_ok
  | 2, _ => exact tyX2_ok
  | 3, _ => exact tyX3_ok
  | 4, _ => exact tyX4_ok
  | 5, _ => exact tyX5_ok
  | 6, _ => exact tyX6_ok
  | 7, _ => exact tyX7_ok
  | 8, _ => exact tyX8_ok
  | 9, _ => exact tyX9_ok
  | 10, _ => exact tyX10_ok
  | 11, _ => exact tyX11_ok
  | 12, _ => exact tyX12_ok
  | n + 13, h => omega
theorem fNm_ok : ∀ ci, ci < 13 → ∀ a, a < nf ci → ∀ b, b < nf ci → a ≠ b → (TT ci a).2.1 ≠ (TT ci b).2.1 := by
  intro ci h
  match ci, h with
  | 0, _ => exact nmX0
  | 1, _ => exact nmX1
  | 2, _ => exact nmX2
  | 3, _ => exact nmX3
  | 4, _ => exact nmX4
  | 5, _ => exact nmX5
  | 6, _ => exact nmX6
  | 7, _ => exact nmX7
  | 8, _ => exact nmX8
  | 9, _ => exact nmX9
  | 10, _ => exact nmX10
  | 11, _ => exact nmX11
  | 12, _ => exact nmX12
  | n + 13, h => omega
theorem fk0 : (List.range (nf 0)).all (fun k => (bif Nat.beq (fty 0 k) 0 then decide (fTy 0 k = .int) else bif Nat.beq (fty 0 k) 1 then decide (fTy 0 k = .long) else bif Nat.beq (fty 0 k) 3 then decide (fTy 0 k = .boolean) else Nat.beq (fty 0 k) 2) && (Nat.beq (fty 0 k) 2 || !(TT 0 k).2.2.2) && decide ((TT 0 k).1 = cnm 0)) = true := by decide +kernel
theorem fk1 : (List.range (nf 1)).all (fun k => (bif Nat.beq (fty 1 k) 0 then decide (fTy 1 k = .int) else bif Nat.beq (fty 1 k) 1 then decide (fTy 1 k = .long) else bif Nat.beq (fty 1 k) 3 then decide (fTy 1 k = .boolean) else Nat.beq (fty 1 k) 2) && (Nat.beq (fty 1 k) 2 || !(TT 1 k).2.2.2) && decide ((TT 1 k).1 = cnm 1)) = true := by decide +kernel
theorem fk2 : (List.range (nf 2)).all (fun k => (bif Nat.beq (fty 2 k) 0 then decide (fTy 2 k = .int) else bif Nat.beq (fty 2 k) 1 then decide (fTy 2 k = .long) else bif Nat.beq (fty 2 k) 3 then decide (fTy 2 k = .boolean) else Nat.beq (fty 2 k) 2) && (Nat.beq (fty 2 k) 2 || !(TT 2 k).2.2.2) && decide ((TT 2 k).1 = cnm 2)) = true := by decide +kernel
theorem fk3 : (List.range (nf 3)).all (fun k => (bif Nat.beq (fty 3 k) 0 then decide (fTy 3 k = .int) else bif Nat.beq (fty 3 k) 1 then decide (fTy 3 k = .long) else bif Nat.beq (fty 3 k) 3 then decide (fTy 3 k = .boolean) else Nat.beq (fty 3 k) 2) && (Nat.beq (fty 3 k) 2 || !(TT 3 k).2.2.2) && decide ((TT 3 k).1 = cnm 3)) = true := by decide +kernel
theorem fk4 : (List.range (nf 4)).all (fun k => (bif Nat.beq (fty 4 k) 0 then decide (fTy 4 k = .int) else bif Nat.beq (fty 4 k) 1 then decide (fTy 4 k = .long) else bif Nat.beq (fty 4 k) 3 then decide (fTy 4 k = .boolean) else Nat.beq (fty 4 k) 2) && (Nat.beq (fty 4 k) 2 || !(TT 4 k).2.2.2) && decide ((TT 4 k).1 = cnm 4)) = true := by decide +kernel
theorem fk5 : (List.range (nf 5)).all (fun k => (bif Nat.beq (fty 5 k) 0 then decide (fTy 5 k = .int) else bif Nat.beq (fty 5 k) 1 then decide (fTy 5 k = .long) else bif Nat.beq (fty 5 k) 3 then decide (fTy 5 k = .boolean) else Nat.beq (fty 5 k) 2) && (Nat.beq (fty 5 k) 2 || !(TT 5 k).2.2.2) && decide ((TT 5 k).1 = cnm 5)) = true := by decide +kernel
theorem fk6 : (List.range (nf 6)).all (fun k => (bif Nat.beq (fty 6 k) 0 then decide (fTy 6 k = .int) else bif Nat.beq (fty 6 k) 1 then decide (fTy 6 k = .long) else bif Nat.beq (fty 6 k) 3 then decide (fTy 6 k = .boolean) else Nat.beq (fty 6 k) 2) && (Nat.beq (fty 6 k) 2 || !(TT 6 k).2.2.2) && decide ((TT 6 k).1 = cnm 6)) = true := by decide +kernel
theorem fk7 : (List.range (nf 7)).all (fun k => (bif Nat.beq (fty 7 k) 0 then decide (fTy 7 k = .int) else bif Nat.beq (fty 7 k) 1 then decide (fTy 7 k = .long) else bif Nat.beq (fty 7 k) 3 then decide (fTy 7 k = .boolean) else Nat.beq (fty 7 k) 2) && (Nat.beq (fty 7 k) 2 || !(TT 7 k).2.2.2) && decide ((TT 7 k).1 = cnm 7)) = true := by decide +kernel
theorem fk8 : (List.range (nf 8)).all (fun k => (bif Nat.beq (fty 8 k) 0 then decide (fTy 8 k = .int) else bif Nat.beq (fty 8 k) 1 then decide (fTy 8 k = .long) else bif Nat.beq (fty 8 k) 3 then decide (fTy 8 k = .boolean) else Nat.beq (fty 8 k) 2) && (Nat.beq (fty 8 k) 2 || !(TT 8 k).2.2.2) && decide ((TT 8 k).1 = cnm 8)) = true := by decide +kernel
theorem fk9 : (List.range (nf 9)).all (fun k => (bif Nat.beq (fty 9 k) 0 then decide (fTy 9 k = .int) else bif Nat.beq (fty 9 k) 1 then decide (fTy 9 k = .long) else bif Nat.beq (fty 9 k) 3 then decide (fTy 9 k = .boolean) else Nat.beq (fty 9 k) 2) && (Nat.beq (fty 9 k) 2 || !(TT 9 k).2.2.2) && decide ((TT 9 k).1 = cnm 9)) = true := by decide +kernel
theorem fk10 : (List.range (nf 10)).all (fun k => (bif Nat.beq (fty 10 k) 0 then decide (fTy 10 k = .int) else bif Nat.beq (fty 10 k) 1 then decide (fTy 10 k = .long) else bif Nat.beq (fty 10 k) 3 then decide (fTy 10 k = .boolean) else Nat.beq (fty 10 k) 2) && (Nat.beq (fty 10 k) 2 || !(TT 10 k).2.2.2) && decide ((TT 10 k).1 = cnm 10)) = true := by decide +kernel
theorem fk11 : (List.range (nf 11)).all (fun k => (bif Nat.beq (fty 11 k) 0 then decide (fTy 11 k = .int) else bif Nat.beq (fty 11 k) 1 then decide (fTy 11 k = .long) else bif Nat.beq (fty 11 k) 3 then decide (fTy 11 k = .boolean) else Nat.beq (fty 11 k) 2) && (Nat.beq (fty 11 k) 2 || !(TT 11 k).2.2.2) && decide ((TT 11 k).1 = cnm 11)) = true := by decide +kernel
theorem fk12 : (List.range (nf 12)).all (fun k => (bif Nat.beq (fty 12 k) 0 then decide (fTy 12 k = .int) else bif Nat.beq (fty 12 k) 1 then decide (fTy 12 k = .long) else bif Nat.beq (fty 12 k) 3 then decide (fTy 12 k = .boolean) else Nat.beq (fty 12 k) 2) && (Nat.beq (fty 12 k) 2 || !(TT 12 k).2.2.2) && decide ((TT 12 k).1 = cnm 12)) = true := by decide +kernel
theorem fk_of {ci : Nat} (h : (List.range (nf ci)).all (fun k => (bif Nat.beq (fty ci k) 0 then decide (fTy ci k = .int) else bif Nat.beq (fty ci k) 1 then decide (fTy ci k = .long) else bif Nat.beq (fty ci k) 3 then decide (fTy ci k = .boolean) else Nat.beq (fty ci k) 2) && (Nat.beq (fty ci k) 2 || !(TT ci k).2.2.2) && decide ((TT ci k).1 = cnm ci)) = true) : ∀ k, k < nf ci → (fty ci k = 0 ∧ fTy ci k = .int ∧ (TT ci k).2.2.2 = false ∨ fty ci k = 1 ∧ fTy ci k = .long ∧ (TT ci k).2.2.2 = false ∨ fty ci k = 3 ∧ fTy ci k = .boolean ∧ (TT ci k).2.2.2 = false ∨ fty ci k = 2) ∧ (TT ci k).1 = cnm ci := by
  intro k hk
  have h1 := List.all_eq_true.mp h k (List.mem_range.mpr hk)
  simp only [Bool.and_eq_true, decide_eq_true_eq, Bool.or_eq_true] at h1
  obtain ⟨⟨h1, h2⟩, h3⟩ := h1
  refine ⟨?_, h3⟩
  rcases h2 with h2 | h2
  · exact Or.inr (Or.inr (Or.inr (Nat.eq_of_beq_eq_true h2)))
  · have h2 : (TT ci k).2.2.2 = false := by simpa using h2
    cases e0 : Nat.beq (fty ci k) 0 with
    | true =>
      rw [e0] at h1
      exact Or.inl ⟨Nat.eq_of_beq_eq_true e0, by simpa using h1, h2⟩
    | false =>
      rw [e0] at h1
      cases e1 : Nat.beq (fty ci k) 1 with
      | true =>
        rw [e1] at h1
        exact Or.inr (Or.inl ⟨Nat.eq_of_beq_eq_true e1, by simpa using h1, h2⟩)
      | false =>
        rw [e1] at h1
        cases e3 : Nat.beq (fty ci k) 3 with
        | true =>
          rw [e3] at h1
          exact Or.inr (Or.inr (Or.inl ⟨Nat.eq_of_beq_eq_true e3, by simpa using h1, h2⟩))
        | false =>
          rw [e3] at h1
          exact Or.inr (Or.inr (Or.inr (Nat.eq_of_beq_eq_true h1)))
theorem fk_ok : ∀ ci, ci < 13 → ∀ k, k < nf ci → (fty ci k = 0 ∧ fTy ci k = .int ∧ (TT ci k).2.2.2 = false ∨ fty ci k = 1 ∧ fTy ci k = .long ∧ (TT ci k).2.2.2 = false ∨ fty ci k = 3 ∧ fTy ci k = .boolean ∧ (TT ci k).2.2.2 = false ∨ fty ci k = 2) ∧ (TT ci k).1 = cnm ci := by
  intro ci h
  match ci, h with
  | 0, _ => exact fk_of fk0
  | 1, _ => exact fk_of fk1
  | 2, _ => exact fk_of fk2
  | 3, _ => exact fk_of fk3
  | 4, _ => exact fk_of fk4
  | 5, _ => exact fk_of fk5
  | 6, _ => exact fk_of fk6
  | 7, _ => exact fk_of fk7
  | 8, _ => exact fk_of fk8
  | 9, _ => exact fk_of fk9
  | 10, _ => exact fk_of fk10
  | 11, _ => exact fk_of fk11
  | 12, _ => exact fk_of fk12
  | n + 13, h => omega
theorem lay_lt {a : Nat} (h : (lay a).1 < 30) : a < xNA := by
  rcases Nat.lt_or_ge a 140 with q | q
  · exact q
  · exfalso
    unfold lay at h
    rw [show Nat.blt a 140 = false from Bool.eq_false_iff.mpr (fun e => by have := Nat.le_of_ble_eq_true e; omega)] at h
    exact absurd (show (99 : Nat) < 30 from h) (by decide)
theorem lay_all : (List.range xNA).all (fun a => Nat.blt (lay a).1 13 && Nat.beq (lay a).2 (nf (lay a).1) || Nat.ble 20 (lay a).1 && Nat.ble (lay a).1 24 && Nat.blt (lay a).2 65536) = true := by decide +kernel
theorem lay_ref : (List.range xNA).all (fun a => bif Nat.blt (lay a).1 13 then (List.range (nf (lay a).1)).all (fun k => !Nat.beq (fty (lay a).1 k) 2 || Nat.blt (fref (lay a).1 k a) xNA) else true) = true := by decide +kernel
/-- a method of the table: its words -/
def mAll : List Nat := mP.map (fun e => e.1)
theorem all_cut {α : Type} {f : α → Bool} {l : List α} (n : Nat) (h1 : (l.take n).all f = true) (h2 : (l.drop n).all f = true) : l.all f = true := by
  rw [← List.take_append_drop n l, List.all_append, h1, h2]
  rfl
theorem mP_ok : mP.all (fun e => mPB e.1 e.2) = true :=
  all_cut 90 mP_ok1 (all_cut 90 mP_ok2 (by rw [List.drop_drop]; exact all_cut 90 mP_ok3 (by rw [List.drop_drop]; exact mP_ok4)))
