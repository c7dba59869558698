/-! luck; the tape's ROW; RUNS -/
theorem xbR_s {α β : Type} {a : β} {k : β → Option α} : xbR (some a) k = k a := Eq.trans rfl rfl
theorem xbW_s {α β : Type} {a : β} {s : xSt} {k : β → xSt → Option α} : xbW (some (a, s)) k = k a s := Eq.trans rfl rfl
theorem xlet_s {α β : Type} {a : α} {k : α → Option β} : xlet a k = k a := Eq.trans rfl rfl
theorem shl_ok : (List.range 62).all (fun n => decide (xlshl 1 (n : Int) = ((2 ^ n : Nat) : Int))) = true := by decide +kernel
theorem shl_n {n : Nat} (h : n ≤ 61) : xlshl 1 (n : Int) = ((2 ^ n : Nat) : Int) := of_decide_eq_true (List.all_eq_true.mp shl_ok n (List.mem_range.mpr (by omega)))
theorem p2_lt {n : Nat} (h : n ≤ 61) : 2 ^ n < 9223372036854775808 := by
  have h1 : 2 ^ n ≤ 2 ^ 61 := Nat.pow_le_pow_right (by decide) h
  have h2 : (2 : Nat) ^ 61 = 2305843009213693952 := by decide
  omega
/-- a call that throws nothing and keeps all, behind the class's fraction -/
theorem fin_told {σ : xSt} (h : Inv0 σ) (a b c v : Int) : Inv0 (upS (upS (upS (upS (upS σ 95 1 a) 95 2 b) 95 0 c) 139 0 v) 111 0 0) :=
  h.fr (L := [(95, [0, 1, 2]), (139, [0]), (111, [0])]) (Fr.up (Fr.up (Fr.up (Fr.up (Fr.up Fr.rf rfl rfl) rfl rfl) rfl rfl) rfl rfl) rfl rfl) rfl
def farV (n h : Int) : Int := xabs (w32 (w32 (2 * h) - n))
theorem m_far {n h : Nat} (hn : n ≤ 60) (hh : h ≤ 61) {σ : xSt} : f_M_far (n : Int) (h : Int) σ = some (farV (n : Int) (h : Int)) := by
  unfold f_M_far farV xabs
  rw [w32_o (x := 2 * (h : Int)) (by omega) (by omega), w32_o (x := 2 * (h : Int) - (n : Int)) (by omega) (by omega)]
  split
  · rw [if_pos (by omega)]
  · rw [w32_o (by omega) (by omega)]
    split
    · congr 1
      omega
    · rw [w32_o (by omega) (by omega)]
      congr 1
      omega
theorem luck_x {N : Nat} {n what F acc h : Int} {σ : xSt} : f_X_luck_52 (N + 1) n what F acc h σ = if n < h then (xbW (f_X_told acc (xlshl 1 n) what σ) fun v s => some (some v, s)) else if farV n h < F then f_X_luck_52 N n what F acc (w32 (h + 1)) σ else xbR (f_Fraction_choices n h σ) fun c => f_X_luck_52 N n what F (w64 (acc + c)) (w32 (h + 1)) σ := rfl
theorem luck_m {N : Nat} {n k what acc h : Int} {σ : xSt} : f_M_luck_44 (N + 1) n k what acc h σ = if n < h then (xbR (f_M_part acc (xlshl 1 n) what σ) fun v => some (v, σ)) else xbR (f_M_far n h σ) fun a => xbR (f_M_far n k σ) fun b => if a < b then f_M_luck_44 N n k what acc (w32 (h + 1)) σ else xbR (f_M_choose n h σ) fun c => f_M_luck_44 N n k what (w64 (acc + c)) (w32 (h + 1)) σ := rfl
theorem luck_lock {n k : Nat} (hn : n ≤ 60) (hk : k ≤ n) {what : Int} {σx σm : xSt} : ∀ (r h N M acc : Nat), h + r = n + 1 → r < N → r < M → (acc : Int) + 118264581564861424 * (r : Int) < 9223372036854775808 →
    ∃ U : Nat, (U : Int) ≤ (acc : Int) + 118264581564861424 * (r : Int) ∧ f_X_luck_52 N (n : Int) what (farV (n : Int) (k : Int)) (acc : Int) (h : Int) σx = (xbW (f_X_told (U : Int) (xlshl 1 (n : Int)) what σx) fun v s => some (some v, s)) ∧
      f_M_luck_44 M (n : Int) (k : Int) what (acc : Int) (h : Int) σm = (xbR (f_M_part (U : Int) (xlshl 1 (n : Int)) what σm) fun v => some (v, σm)) := by
  intro r
  induction r with
  | zero =>
    intro h N M acc h1 h2 h3 h4
    obtain ⟨N, rfl⟩ : ∃ n2, N = n2 + 1 := ⟨N - 1, by omega⟩
    obtain ⟨M, rfl⟩ : ∃ n2, M = n2 + 1 := ⟨M - 1, by omega⟩
    refine ⟨acc, by omega, ?_, ?_⟩
    · rw [luck_x, if_pos (by omega)]
    · rw [luck_m, if_pos (by omega)]
  | succ r ih =>
    intro h N M acc h1 h2 h3 h4
    obtain ⟨N, rfl⟩ : ∃ n2, N = n2 + 1 := ⟨N - 1, by omega⟩
    obtain ⟨M, rfl⟩ : ∃ n2, M = n2 + 1 := ⟨M - 1, by omega⟩
    have hc := chN_le (n := n) (k := h) hn
    have w1 : w32 ((h : Int) + 1) = ((h + 1 : Nat) : Int) := (w32_o (by omega) (by omega)).trans (by omega)
    have w2 : w64 ((acc : Int) + (chN n h : Int)) = ((acc + chN n h : Nat) : Int) := (w64_o (by omega) (by omega)).trans (by omega)
    have hnh : ¬ (n : Int) < (h : Int) := by omega
    by_cases hlt : farV (n : Int) (h : Int) < farV (n : Int) (k : Int)
    · obtain ⟨U, u1, u2, u3⟩ := ih (h + 1) N M acc (by omega) (by omega) (by omega) (by omega)
      refine ⟨U, by omega, ?_, ?_⟩
      · rw [luck_x, if_neg hnh, if_pos hlt, w1]
        exact u2
      · rw [luck_m, if_neg hnh, m_far hn (by omega), m_far hn (by omega)]
        simp only [xbR_s]
        rw [if_pos hlt, w1]
        exact u3
    · obtain ⟨U, u1, u2, u3⟩ := ih (h + 1) N M (acc + chN n h) (by omega) (by omega) (by omega) (by omega)
      refine ⟨U, by omega, ?_, ?_⟩
      · rw [luck_x, if_neg hnh, if_neg hlt, x_choices hn]
        simp only [xbR_s]
        rw [w1, w2]
        exact u2
      · rw [luck_m, if_neg hnh, m_far hn (by omega), m_far hn (by omega)]
        simp only [xbR_s]
        rw [if_neg hlt, m_choose hn, xbR_s]
        rw [w1, w2]
        exact u3
theorem farV_eq {n k : Int} : xabs (w32 (w32 (2 * k) - n)) = farV n k := Eq.trans rfl rfl
theorem c0n : ((0 : Nat) : Int) = 0 := rfl
theorem sim_luck {n : Nat} : ∀ p1 p2 p3 : Int, in32 p1 → in32 p2 → in32 p3 → SimT (InvN (n + 1)) (InvN n) (f_X_luck p1 p2 p3) (f_M_luck p1 p2 p3) := by
  intro p1 p2 p3 _ _ _
  refine simT0 (fun σ h => ?_)
  by_cases hp : (1 ≤ p1 ∧ p1 ≤ 60) ∧ (0 ≤ p2 ∧ p2 ≤ p1) ∧ 0 ≤ p3 ∧ p3 ≤ 1
  · obtain ⟨a, rfl⟩ : ∃ a : Nat, p1 = (a : Int) := ⟨p1.toNat, by omega⟩
    obtain ⟨k, rfl⟩ : ∃ a : Nat, p2 = (a : Int) := ⟨p2.toNat, by omega⟩
    obtain ⟨U, u1, u2, u3⟩ := luck_lock (n := a) (k := k) (by omega) (by omega) (what := p3) (σx := σ) (σm := σ) (a + 1) 0 1000000 1000000 0 (by omega) (by omega) (by omega) (by omega)
    have hs := shl_n (n := a) (by omega)
    have hl := p2_lt (n := a) (by omega)
    have hpos : 0 < 2 ^ a := Nat.pow_pos (by decide)
    have ht := x_told (σ := σ) (u := (U : Int)) (b := 2 ^ a) (what := p3) (by omega) (by omega) hpos hl
    have hX : f_X_luck (a : Int) (k : Int) p3 σ = some (some (rdI (U : Int) (2 ^ a) p3), upS (upS (upS σ 95 1 (rdI (U : Int) (2 ^ a) 0)) 95 2 (rdI (U : Int) (2 ^ a) 1)) 95 0 1) := by
      unfold f_X_luck
      simp (disch := omega) only [x_isWithin, if_pos, if_neg, if_true, if_false, xbR_s, xbW_s, xlet_s]
      rw [c0n] at u2
      rw [farV_eq, u2, hs, ht, xbW_s]
    refine ⟨_, _, rdI (U : Int) (2 ^ a) p3, upS (upS (upS (upS (upS σ 95 1 (rdI (U : Int) (2 ^ a) 0)) 95 2 (rdI (U : Int) (2 ^ a) 1)) 95 0 1) 139 0 (rdI (U : Int) (2 ^ a) p3)) 111 0 0, hX, ?_, Or.inr ⟨?_, _, rfl, rfl, ?_⟩, fin_told h _ _ _ _, rfl⟩
    · obtain ⟨U2, v1, v2, v3⟩ := luck_lock (n := a) (k := k) (by omega) (by omega) (what := p3) (σx := σ) (σm := upS (wSt (some (rdI (U : Int) (2 ^ a) p3), upS (upS (upS σ 95 1 (rdI (U : Int) (2 ^ a) 0)) 95 2 (rdI (U : Int) (2 ^ a) 1)) 95 0 1)) 111 0 0) (a + 1) 0 1000000 1000000 0 (by omega) (by omega) (by omega) (by omega)
      have hsame : rdI (U2 : Int) (2 ^ a) p3 = rdI (U : Int) (2 ^ a) p3 := by
        have ht2 := x_told (σ := σ) (u := (U2 : Int)) (b := 2 ^ a) (what := p3) (by omega) (by omega) hpos hl
        rw [u2, hs, ht, ht2] at v2
        simp only [xbW_s, Option.some.injEq, Prod.mk.injEq] at v2
        exact v2.1.symm
      unfold f_M_luck
      simp (disch := omega) only [m_isIn, if_pos, if_neg, if_true, if_false, xbR_s, xbW_s, xlet_s]
      rw [c0n] at v3
      rw [v3, hs, m_part (by omega) (by omega) hpos hl, hsame, xbR_s]
      rfl
    · rfl
    · rfl
  · refine ⟨none, σ, 0, upS σ 111 0 1, ?_, ?_, Or.inl ⟨rfl, rfl⟩, inv_thr h, rfl⟩
    · unfold f_X_luck
      simp only [x_isWithin, xbR_s]
      (repeat' split) <;> first | rfl | (exfalso; omega)
    · unfold f_M_luck f_M_luck_28 f_M_refuseLong
      show _ = some (0, upS σ 111 0 1)
      simp only [m_isIn, xbR_s, xbW_s, xlet_s, wSt]
      (repeat' split) <;> first | rfl | (exfalso; omega)
