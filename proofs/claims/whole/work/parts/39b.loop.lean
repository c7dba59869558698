/-! printed by wip/whole/mk39.py: the code of the law's loop -/
/-- the law from its loop on -/
def kL_loop (pc : Nat) : Option (Instr × Nat) := bif Nat.blt pc 23 then none else kL_law pc
def cdR (own lo : Nat) (bytes : ByteArray) (k : Nat → Option (Instr × Nat)) (n : Nat) : Bool := (List.range n).all (fun j => match k (lo + j) with
  | none => true
  | some (i, len) => decide (decode bytes (lo + j) = .ok (i, len)) && okI own (lo + j) len i)
theorem cdR_at {own lo n : Nat} {bytes : ByteArray} {k : Nat → Option (Instr × Nat)} (h : cdR own lo bytes k n = true) {pc len : Nat} {i : Instr} (h1 : lo ≤ pc) (h2 : pc < lo + n) (hi : k pc = some (i, len)) : decode bytes pc = .ok (i, len) ∧ okI own pc len i = true := by
  have h3 := List.all_eq_true.mp h (pc - lo) (List.mem_range.mpr (by omega))
  rw [show lo + (pc - lo) = pc by omega, hi] at h3
  simp only [Bool.and_eq_true, decide_eq_true_eq] at h3
  exact h3
theorem cdR_0 : cdR 13 0 cL_law kL_loop 100 = true := by decide +kernel
theorem cdR_1 : cdR 13 100 cL_law kL_loop 100 = true := by decide +kernel
theorem cdR_2 : cdR 13 200 cL_law kL_loop 100 = true := by decide +kernel
theorem cdR_3 : cdR 13 300 cL_law kL_loop 100 = true := by decide +kernel
theorem cdR_4 : cdR 13 400 cL_law kL_loop 100 = true := by decide +kernel
theorem cdR_5 : cdR 13 500 cL_law kL_loop 100 = true := by decide +kernel
theorem cdR_6 : cdR 13 600 cL_law kL_loop 100 = true := by decide +kernel
theorem cdR_7 : cdR 13 700 cL_law kL_loop 100 = true := by decide +kernel
theorem cdR_8 : cdR 13 800 cL_law kL_loop 100 = true := by decide +kernel
theorem cdR_9 : cdR 13 900 cL_law kL_loop 100 = true := by decide +kernel
theorem cdR_10 : cdR 13 1000 cL_law kL_loop 100 = true := by decide +kernel
theorem cdR_11 : cdR 13 1100 cL_law kL_loop 100 = true := by decide +kernel
theorem cdR_12 : cdR 13 1200 cL_law kL_loop 100 = true := by decide +kernel
theorem cdR_13 : cdR 13 1300 cL_law kL_loop 100 = true := by decide +kernel
theorem cdR_14 : cdR 13 1400 cL_law kL_loop 100 = true := by decide +kernel
theorem cdR_15 : cdR 13 1500 cL_law kL_loop 100 = true := by decide +kernel
theorem cdR_16 : cdR 13 1600 cL_law kL_loop 100 = true := by decide +kernel
theorem cdR_17 : cdR 13 1700 cL_law kL_loop 100 = true := by decide +kernel
theorem cdR_18 : cdR 13 1800 cL_law kL_loop 100 = true := by decide +kernel
theorem cdR_19 : cdR 13 1900 cL_law kL_loop 100 = true := by decide +kernel
theorem cdL_loop : CdOk 13 cL_law kL_loop := by
  intro pc i len hi
  rcases Nat.lt_or_ge pc 100 with h0 | h0
  · exact cdR_at cdR_0 (Nat.zero_le _) (by omega) hi
  rcases Nat.lt_or_ge pc 200 with h1 | h1
  · exact cdR_at cdR_1 h0 (by omega) hi
  rcases Nat.lt_or_ge pc 300 with h2 | h2
  · exact cdR_at cdR_2 h1 (by omega) hi
  rcases Nat.lt_or_ge pc 400 with h3 | h3
  · exact cdR_at cdR_3 h2 (by omega) hi
  rcases Nat.lt_or_ge pc 500 with h4 | h4
  · exact cdR_at cdR_4 h3 (by omega) hi
  rcases Nat.lt_or_ge pc 600 with h5 | h5
  · exact cdR_at cdR_5 h4 (by omega) hi
  rcases Nat.lt_or_ge pc 700 with h6 | h6
  · exact cdR_at cdR_6 h5 (by omega) hi
  rcases Nat.lt_or_ge pc 800 with h7 | h7
  · exact cdR_at cdR_7 h6 (by omega) hi
  rcases Nat.lt_or_ge pc 900 with h8 | h8
  · exact cdR_at cdR_8 h7 (by omega) hi
  rcases Nat.lt_or_ge pc 1000 with h9 | h9
  · exact cdR_at cdR_9 h8 (by omega) hi
  rcases Nat.lt_or_ge pc 1100 with h10 | h10
  · exact cdR_at cdR_10 h9 (by omega) hi
  rcases Nat.lt_or_ge pc 1200 with h11 | h11
  · exact cdR_at cdR_11 h10 (by omega) hi
  rcases Nat.lt_or_ge pc 1300 with h12 | h12
  · exact cdR_at cdR_12 h11 (by omega) hi
  rcases Nat.lt_or_ge pc 1400 with h13 | h13
  · exact cdR_at cdR_13 h12 (by omega) hi
  rcases Nat.lt_or_ge pc 1500 with h14 | h14
  · exact cdR_at cdR_14 h13 (by omega) hi
  rcases Nat.lt_or_ge pc 1600 with h15 | h15
  · exact cdR_at cdR_15 h14 (by omega) hi
  rcases Nat.lt_or_ge pc 1700 with h16 | h16
  · exact cdR_at cdR_16 h15 (by omega) hi
  rcases Nat.lt_or_ge pc 1800 with h17 | h17
  · exact cdR_at cdR_17 h16 (by omega) hi
  rcases Nat.lt_or_ge pc 1900 with h18 | h18
  · exact cdR_at cdR_18 h17 (by omega) hi
  rcases Nat.lt_or_ge pc 2000 with h19 | h19
  · exact cdR_at cdR_19 h18 (by omega) hi
  · unfold kL_loop kL_law at hi
    rw [blt_ge (show 1949 ≤ pc by omega), blt_ge (show 23 ≤ pc by omega)] at hi
    cases hi
