/-! TOKENS: the told words -/
def wdA : List (Nat × Nat) := [(141, 5), (142, 6), (143, 7), (144, 8), (145, 12), (146, 13), (147, 10), (148, 11), (149, 9), (150, 0), (151, 2), (152, 3), (153, 1), (155, 4)]
theorem wdA_ok : wdA.all (fun e => decide (slen e.1 < 100000) && decide (tfold e.1 (slen e.1).toNat 0 0 = (pkN 32 (wrdL.getD e.2 []) : Int)) && decide (e.2 < 14)) = true := by decide +kernel
theorem x_isK {a k : Nat} {σ : xSt} (h : (a, k) ∈ wdA) : f_Tokens_is a σ = some (if σ 2 6 = 3 ∧ σ 2 7 = (pkN 32 (wrdL.getD k []) : Int) then 1 else 0) := by
  have q := List.all_eq_true.mp wdA_ok (a, k) h
  simp only [Bool.and_eq_true, decide_eq_true_iff] at q
  rw [x_is q.1.1, q.1.2]
def twL : Nat → Nat → Int → List Int
  | 0, _, _ => []
  | j + 1, l, a => if sch 154 (l : Int) = 32 then a :: twL j (l + 1) 0 else twL j (l + 1) (w32 (w32 (w32 (w32 (a * 32) + sch 154 (l : Int)) - 97) + 1))
theorem tw_l (v : Int) : ∀ (j fu l : Nat) (a : Int) (σ : xSt), (l : Int) + j = slen 154 → l + j < 100000 → j < fu → f_Tokens_isToldWord_4 fu v a (l : Int) σ = some (if v ∈ twL j l a then 1 else 0) := by
  intro j
  induction j with
  | zero =>
    intro fu l a σ g1 g3 g2
    obtain ⟨fu, rfl⟩ : ∃ n2, fu = n2 + 1 := ⟨fu - 1, by omega⟩
    have e : ¬ v ∈ twL 0 l a := fun z => by cases z
    rw [f_Tokens_isToldWord_4.eq_2, if_neg (by omega), if_neg e]
  | succ j ih =>
    intro fu l a σ g1 g3 g2
    obtain ⟨fu, rfl⟩ : ∃ n2, fu = n2 + 1 := ⟨fu - 1, by omega⟩
    have c1 : (l : Int) < slen 154 := by omega
    have c2 : 0 ≤ (l : Int) ∧ (l : Int) < slen 154 := by omega
    have l1 : l < 100000 := by omega
    have e : twL (j + 1) l a = if sch 154 (l : Int) = 32 then a :: twL j (l + 1) 0 else twL j (l + 1) (w32 (w32 (w32 (w32 (a * 32) + sch 154 (l : Int)) - 97) + 1)) := rfl
    by_cases h : sch 154 (l : Int) = 32
    · rw [if_pos h] at e
      by_cases ha : a = v
      · have hm : v ∈ twL (j + 1) l a := by rw [e, ha]; exact List.mem_cons_self ..
        rw [f_Tokens_isToldWord_4.eq_2, if_pos c1, if_pos c2, if_pos h, if_pos ha, if_pos hm]
      · have q := ih fu (l + 1) 0 σ (by omega) (by omega) (by omega)
        have hm : v ∈ twL (j + 1) l a ↔ v ∈ twL j (l + 1) 0 := by
          rw [e, List.mem_cons]
          exact ⟨fun z => z.resolve_left (fun y => ha y.symm), Or.inr⟩
        rw [f_Tokens_isToldWord_4.eq_2, if_pos c1, if_pos c2, if_pos h, if_neg ha, w32_n1 l1, xlet_s, q]
        by_cases hv : v ∈ twL j (l + 1) 0
        · rw [if_pos hv, if_pos (hm.mpr hv)]
        · rw [if_neg hv, if_neg (fun z => hv (hm.mp z))]
    · rw [if_neg h] at e
      rw [f_Tokens_isToldWord_4.eq_2, if_pos c1, if_pos c2, if_neg h, if_pos c2]
      unfold f_Tokens_pack
      rw [xbR_s, w32_n1 l1, xlet_s, ih fu (l + 1) _ σ (by omega) (by omega) (by omega), e]
def wd32 : List Int := wrdL.map (fun l => (pkN 32 l : Int))
theorem twL_ok : (twL (slen 154).toNat 0 0).all (fun v => wd32.contains v) = true ∧ wd32.all (fun v => (twL (slen 154).toNat 0 0).contains v) = true := by decide +kernel
theorem told_i {v : Int} : Told v ↔ v ∈ wd32 := by
  have h0 : 0 ≤ slen 154 ∧ slen 154 < 1000 := by decide +kernel
  have q : ∀ σ, f_Tokens_isToldWord v σ = some (if v ∈ twL (slen 154).toNat 0 0 then 1 else 0) := fun σ => by
    have q := tw_l v (slen 154).toNat 1000000 0 0 σ (by omega) (by omega) (by omega)
    rw [c0n] at q
    exact q
  have m : v ∈ twL (slen 154).toNat 0 0 ↔ v ∈ wd32 := ⟨fun z => List.contains_iff_mem.mp (List.all_eq_true.mp twL_ok.1 v z), fun z => List.contains_iff_mem.mp (List.all_eq_true.mp twL_ok.2 v z)⟩
  unfold Told
  constructor
  · intro h
    have z := (q z0).symm.trans (h z0)
    by_cases hv : v ∈ twL (slen 154).toNat 0 0
    · exact m.mp hv
    · rw [if_neg hv] at z
      cases z
  · intro h σ
    rw [q σ, if_pos (m.mpr h)]
