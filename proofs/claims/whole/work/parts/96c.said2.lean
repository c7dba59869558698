/-! said -/
theorem sh_step {s : xSt} {e i l : Nat} {fu : Nat} (h1 : (i : Int) < s 22 1) (h2 : i < 40) (hl : l < 1073741824) :
    (s 23 i = 0 → f_Sentence_holdsFor_6 (fu + 1) (e : Int) (l : Int) (i : Int) s = f_Sentence_holdsFor_6 fu (e : Int) ((2 * (l / 2) + (1 - l % 2) : Nat) : Int) ((i + 1 : Nat) : Int) s) ∧
    (s 23 i = 2 → f_Sentence_holdsFor_6 (fu + 1) (e : Int) (l : Int) (i : Int) s = f_Sentence_holdsFor_6 fu (e : Int) ((2 * (l / 2 / 2) + (if l / 2 % 2 = 1 ∨ l % 2 = 1 then 1 else 0) : Nat) : Int) ((i + 1 : Nat) : Int) s) ∧
    (s 23 i = 1 → f_Sentence_holdsFor_6 (fu + 1) (e : Int) (l : Int) (i : Int) s = f_Sentence_holdsFor_6 fu (e : Int) ((2 * (l / 2 / 2) + (if l / 2 % 2 = 1 ∧ l % 2 = 1 then 1 else 0) : Nat) : Int) ((i + 1 : Nat) : Int) s) ∧
    (∀ v : Nat, 3 ≤ s 23 i → (v = 0 ∨ v = 1) → f_Sentence_isFact (i : Int) (e : Int) s = some (v : Int) → f_Sentence_holdsFor_6 (fu + 1) (e : Int) (l : Int) (i : Int) s = f_Sentence_holdsFor_6 fu (e : Int) ((2 * l + v : Nat) : Int) ((i + 1 : Nat) : Int) s) := by
  have c2 : (i : Int) < 40 := by omega
  have b40 : 0 ≤ (i : Int) ∧ (i : Int) < 40 := by omega
  have i1 : i < 100000 := by omega
  have hl2 : l < 2147483648 := by omega
  have a1 : xand (l : Int) 1 = ((l % 2 : Nat) : Int) := (xand_1 (l : Int)).trans (by omega)
  refine ⟨fun h => ?_, fun h => ?_, fun h => ?_, fun v h hv hf => ?_⟩
  · rw [f_Sentence_holdsFor_6.eq_2, if_pos h1, if_pos c2, xlet_s, if_pos b40, Int.toNat_natCast, h, if_pos rfl, xxor_n hl2, xlet_s, w32_n1 i1, xlet_s]
  · rw [f_Sentence_holdsFor_6.eq_2, if_pos h1, if_pos c2, a1, xlet_s, if_pos b40, Int.toNat_natCast, h, if_neg (by decide), if_pos b40, if_pos rfl, xushr_1 hl2, xor32_n (by omega) (by omega), xlet_s, w32_n1 i1, xlet_s]
  · have e1 : xand ((l / 2 : Nat) : Int) (xor32 (-2) ((l % 2 : Nat) : Int)) = ((2 * (l / 2 / 2) + (if l / 2 % 2 = 1 ∧ l % 2 = 1 then 1 else 0) : Nat) : Int) := by
      by_cases hz : l % 2 = 1
      · rw [hz, show xor32 (-2) ((1 : Nat) : Int) = -1 from xor_m2.2, xand_m1 (by omega)]
        by_cases hy : l / 2 % 2 = 1
        · rw [if_pos ⟨hy, rfl⟩]
          omega
        · rw [if_neg (fun z => hy z.1)]
          omega
      · rw [show l % 2 = 0 by omega, show xor32 (-2) ((0 : Nat) : Int) = -2 from xor_m2.1, xand_m2 (by omega), if_neg (fun z => absurd z.2 (by decide)), Nat.add_zero]
    rw [f_Sentence_holdsFor_6.eq_2, if_pos h1, if_pos c2, a1, xlet_s, if_pos b40, Int.toNat_natCast, h, if_neg (by decide), if_pos b40, if_neg (by decide), if_pos b40, if_pos rfl, xushr_1 hl2, e1, xlet_s, w32_n1 i1, xlet_s]
  · have e0 : xor32 ((2 * l : Nat) : Int) 0 = ((2 * l + 0 : Nat) : Int) := by
      have := xor32_n (a := 2 * l) (b := 0) (by omega) (by decide)
      rw [if_neg (by omega)] at this
      rw [show (0 : Int) = ((0 : Nat) : Int) from rfl, this]
      omega
    have e1 : xor32 ((2 * l : Nat) : Int) 1 = ((2 * l + 1 : Nat) : Int) := by
      have := xor32_n (a := 2 * l) (b := 1) (by omega) (by decide)
      rw [if_pos (Or.inr rfl)] at this
      rw [show (1 : Int) = ((1 : Nat) : Int) from rfl, this]
      omega
    rw [f_Sentence_holdsFor_6.eq_2, if_pos h1, if_pos c2, a1, xlet_s, if_pos b40, Int.toNat_natCast, if_neg (by omega), if_pos b40, if_neg (by omega), if_pos b40, if_neg (by omega), hf, xbR_s]
    rcases hv with rfl | rfl
    · rw [if_pos c0n, xshl_1 hl, e0, xlet_s, w32_n1 i1, xlet_s]
    · rw [if_neg (by decide), xshl_1 hl, e1, xlet_s, w32_n1 i1, xlet_s]
theorem Sen_lt2 {s : xSt} {en : Int} : ∀ {n lo hi : Nat}, Sen s 22 113 0 en n lo hi → lo < hi := by
  intro n
  induction n with
  | zero => exact fun h => h.elim
  | succ n ih =>
    intro lo hi h
    obtain ⟨i, rfl, h⟩ := h
    rcases h with ⟨-, -, h, -⟩ | ⟨-, m, h1, h2, -⟩ | ⟨h, -⟩
    · have := ih h
      omega
    · have := ih h1
      have := ih h2
      omega
    · omega
def SenOk (s M : xSt) (e n lo hi : Nat) : Prop := lo < hi ∧ ∃ b : Nat, (b = 0 ∨ b = 1) ∧ (∀ fu, n ≤ fu → g_M_holds fu ((hi : Int) - 1) (e : Int) M = some (b : Int)) ∧
  ∀ l hgt fu : Nat, l < 2 ^ hgt → hgt + (hi - lo + 1) / 2 ≤ 29 → f_Sentence_holdsFor_6 (fu + (hi - lo)) (e : Int) (l : Int) (lo : Int) s = f_Sentence_holdsFor_6 fu (e : Int) ((2 * l + b : Nat) : Int) (hi : Int) s
theorem p30 {l h : Nat} (hl : l < 2 ^ h) (hh : h ≤ 29) : l < 536870912 := by
  have h1 : 2 ^ h ≤ 2 ^ 29 := Nat.pow_le_pow_right (by decide) hh
  have h2 : (2 : Nat) ^ 29 = 536870912 := by decide
  omega
theorem sen_lock {s M : xSt} (h : Inv0 s) (hM : ∀ q, M 113 q = s 113 q) (hP : PTab s M) {e : Nat} (he : (e : Int) < s 7 2) : ∀ n lo hi : Nat, Sen s 22 113 0 (s 7 2) n lo hi → hi ≤ 40 → (hi : Int) ≤ s 22 1 → SenOk s M e n lo hi := by
  intro n
  induction n with
  | zero => exact fun lo hi hS => hS.elim
  | succ n ih =>
    intro lo hi hS h40 h22
    obtain ⟨i, rfl, hS⟩ := hS
    rw [show (0 + 684 + 4 * i) = 684 + 4 * i by omega, show (0 + 685 + 4 * i) = 685 + 4 * i by omega, show (0 + 686 + 4 * i) = 686 + 4 * i by omega, show (0 + 687 + 4 * i) = 687 + 4 * i by omega] at hS
    have i40 : i < 40 := by omega
    have hi1 : (i : Int) < s 22 1 := by omega
    have gs : ∀ fu (v : Int), (f0_M_holds (g_M_holds fu) (i : Int) (e : Int) M = some v) → g_M_holds (fu + 1) (((i + 1 : Nat) : Int) - 1) (e : Int) M = some v := fun fu v hv => by
      rw [show ((i + 1 : Nat) : Int) - 1 = (i : Int) by omega]
      exact hv
    rcases hS with ⟨f1, f2, f3, f4⟩ | ⟨f1, m, f2, f3, f4, f5⟩ | ⟨f0, hf⟩
    · have f1 : s 23 i = 0 := f1
      obtain ⟨g0, b, g1, g2, g3⟩ := ih lo i f3 (by omega) (by omega)
      refine ⟨by omega, 1 - b, by omega, fun fu hfu => ?_, fun l hgt fu hl hh => ?_⟩
      · obtain ⟨fu, rfl⟩ : ∃ n2, fu = n2 + 1 := ⟨fu - 1, by omega⟩
        refine gs fu _ ?_
        rw [holds_hd hM i40, f2, if_pos rfl, f4, g2 fu (by omega), xbR_s]
        rcases g1 with rfl | rfl
        · rw [if_pos c0n]
          rfl
        · rw [if_neg (by decide)]
          rfl
      · have hl0 := p30 hl (by omega)
        have q := g3 l hgt (fu + 1) hl (by omega)
        rw [show fu + (i + 1 - lo) = fu + 1 + (i - lo) by omega, q, (sh_step hi1 i40 (by omega)).1 f1]
        congr 2
        omega
    · obtain ⟨g0, b, g1, g2, g3⟩ := ih lo m f2 (by have := Sen_lt2 f3; omega) (by have := Sen_lt2 f3; omega)
      obtain ⟨k0, c, k1, k2, k3⟩ := ih m i f3 (by omega) (by omega)
      have run : ∀ l hgt fu : Nat, l < 2 ^ hgt → hgt + (i + 1 - lo + 1) / 2 ≤ 29 → f_Sentence_holdsFor_6 (fu + (i + 1 - lo)) (e : Int) (l : Int) (lo : Int) s = f_Sentence_holdsFor_6 (fu + 1) (e : Int) ((2 * (2 * l + b) + c : Nat) : Int) (i : Int) s ∧ l < 134217728 := fun l hgt fu hl hh => by
        have hl2 : 2 * l + b < 2 ^ (hgt + 1) := by
          rw [Nat.pow_succ]
          omega
        have hl4 : 2 * (2 * l + b) < 2 ^ (hgt + 2) := by
          rw [Nat.pow_succ, Nat.pow_succ]
          rw [Nat.pow_succ] at hl2
          omega
        have hl5 := p30 hl4 (by omega)
        have q1 := g3 l hgt (fu + 1 + (i - m)) hl (by omega)
        have q2 := k3 (2 * l + b) (hgt + 1) (fu + 1) hl2 (by omega)
        rw [show fu + (i + 1 - lo) = fu + 1 + (i - m) + (m - lo) by omega, q1, q2]
        exact ⟨rfl, by omega⟩
      rcases f1 with ⟨f1, f6⟩ | ⟨f1, f6⟩
      · have f1 : s 23 i = 1 := f1
        refine ⟨by omega, (if b = 1 ∧ c = 1 then 1 else 0), by split <;> omega, fun fu hfu => ?_, fun l hgt fu hl hh => ?_⟩
        · obtain ⟨fu, rfl⟩ : ∃ n2, fu = n2 + 1 := ⟨fu - 1, by omega⟩
          refine gs fu _ ?_
          rw [holds_hd hM i40, f6, if_neg (by decide), if_pos rfl, f4, g2 fu (by omega), xbR_s]
          rcases g1 with rfl | rfl
          · rw [if_pos c0n]
            rfl
          · rw [if_neg (by decide), f5, k2 fu (by omega), xbR_s]
            rcases k1 with rfl | rfl
            · rw [if_pos c0n]
              rfl
            · rw [if_neg (by decide)]
              rfl
        · obtain ⟨r1, r2⟩ := run l hgt fu hl hh
          rw [r1, (sh_step hi1 i40 (by omega)).2.2.1 f1]
          congr 2
          rcases g1 with rfl | rfl <;> rcases k1 with rfl | rfl
          · rw [if_neg (by omega), if_neg (by decide)]
            omega
          · rw [if_neg (by omega), if_neg (by decide)]
            omega
          · rw [if_neg (by omega), if_neg (by decide)]
            omega
          · rw [if_pos (by omega), if_pos ⟨rfl, rfl⟩]
            omega
      · have f1 : s 23 i = 2 := f1
        refine ⟨by omega, (if b = 1 ∨ c = 1 then 1 else 0), by split <;> omega, fun fu hfu => ?_, fun l hgt fu hl hh => ?_⟩
        · obtain ⟨fu, rfl⟩ : ∃ n2, fu = n2 + 1 := ⟨fu - 1, by omega⟩
          refine gs fu _ ?_
          rw [holds_hd hM i40, f6, if_neg (by decide), if_neg (by decide), if_pos rfl, f4, g2 fu (by omega), xbR_s]
          rcases g1 with rfl | rfl
          · rw [if_pos c0n, f5, k2 fu (by omega), xbR_s]
            rcases k1 with rfl | rfl
            · rw [if_pos c0n]
              rfl
            · rw [if_neg (by decide)]
              rfl
          · rw [if_neg (by decide)]
            rcases k1 with rfl | rfl <;> rfl
        · obtain ⟨r1, r2⟩ := run l hgt fu hl hh
          rw [r1, (sh_step hi1 i40 (by omega)).2.1 f1]
          congr 2
          rcases g1 with rfl | rfl <;> rcases k1 with rfl | rfl
          · rw [if_neg (by omega), if_neg (by decide)]
            omega
          · rw [if_pos (by omega), if_pos (by decide)]
            omega
          · rw [if_pos (by omega), if_pos (by decide)]
            omega
          · rw [if_pos (by omega), if_pos (by decide)]
            omega
    · subst f0
      have h3 : 3 ≤ s 23 lo := by
        rcases hf with ⟨z, -⟩ | ⟨z, -⟩ | ⟨z, -⟩ | ⟨⟨z, -⟩ | ⟨z, -⟩, -⟩ <;> (have z : s 23 lo = _ := z; omega)
      obtain ⟨v, v0, v1, v2⟩ := fact_lock h hM hP he i40 hf
      refine ⟨by omega, v, v0, fun fu hfu => ?_, fun l hgt fu hl hh => ?_⟩
      · obtain ⟨fu, rfl⟩ : ∃ n2, fu = n2 + 1 := ⟨fu - 1, by omega⟩
        exact gs fu _ (v2 _)
      · have hl0 := p30 hl (by omega)
        rw [show fu + (lo + 1 - lo) = fu + 1 by omega]
        exact (sh_step hi1 i40 (by omega)).2.2.2 v h3 v0 v1
