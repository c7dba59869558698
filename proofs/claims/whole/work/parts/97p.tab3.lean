/-! TABLES read in lock-step: wheels -/
theorem m_wheel41 {b : Nat} (hb : b + 8 ≤ 41) : ∀ (j fu i : Nat) (τ : xSt), i + j = 8 → j < fu → ∃ τ', f_M_readWheel_41 fu (b : Int) (i : Int) τ = f_M_readWheel_62 1000000 (b : Int) τ' ∧ (∀ k, i ≤ k → k < 8 → τ' 114 (b + k) = 0) ∧ (∀ q, (q < b + i ∨ b + 8 ≤ q) → τ' 114 q = τ 114 q) ∧ ∀ a q, a ≠ 114 → τ' a q = τ a q := by
  intro j
  induction j with
  | zero =>
    intro fu i τ h1 h2
    obtain ⟨fu, rfl⟩ : ∃ n2, fu = n2 + 1 := ⟨fu - 1, by omega⟩
    have hi : i = 8 := by omega
    have n8 : ¬ ((8 : Nat) : Int) < 8 := by decide
    refine ⟨τ, ?_, fun k a b => by omega, fun _ _ => rfl, fun _ _ _ => rfl⟩
    rw [hi, f_M_readWheel_41.eq_2, if_neg n8]
  | succ j ih =>
    intro fu i τ h1 h2
    obtain ⟨fu, rfl⟩ : ∃ n2, fu = n2 + 1 := ⟨fu - 1, by omega⟩
    have b1 : (i : Int) < 8 := by omega
    have b3 : i < 100000 := by omega
    have b4 : 0 ≤ ((b + i : Nat) : Int) ∧ ((b + i : Nat) : Int) < 41 := by omega
    have e1 : w32 ((b : Int) + (i : Int)) = ((b + i : Nat) : Int) := w32_nn (by omega)
    obtain ⟨τ', k1, k2, k3, k4⟩ := ih fu (i + 1) (upS τ 114 (b + i) 0) (by omega) (by omega)
    refine ⟨τ', ?_, fun k hk hk2 => ?_, fun q hq => ?_, fun a q ha => by rw [k4 a q ha, upS_ne ha]⟩
    · rw [f_M_readWheel_41.eq_2, if_pos b1, e1, if_pos b4, Int.toNat_natCast, xlet_s, w32_n1 b3, xlet_s]
      exact k1
    · by_cases he : k = i
      · subst he
        rw [k3 _ (by omega), upS_eq]
      · exact k2 k (by omega) hk2
    · rw [k3 q (by omega), upS_nk (by omega)]
section
variable {σ0 τ0 : xSt} {d : Nat → Int} {n c : Nat}
def WhS (σ0 τ0 : xSt) (d : Nat → Int) (n c i T m : Nat) (S : Int) (σ1 τ3 σ τ : xSt) : Prop := LR d n 500 c i σ τ ∧ σ 2 9 = 0 ∧ τ 111 10 = 0 ∧ KpX tbW σ0 σ ∧ KpM tbV τ0 τ ∧ (∀ a q, a ≠ 2 → ¬ (a = 32 ∧ 6 * T ≤ q ∧ q < 6 * T + 6) → σ a q = σ1 a q) ∧ (∀ a q, a ≠ 111 → ¬ (a = 114 ∧ 4 + 8 * T ≤ q ∧ q < 12 + 8 * T) → τ a q = τ3 a q) ∧
  τ 114 (4 + 8 * T) = (m : Int) ∧ τ 114 (4 + 8 * T + 1) = S ∧ (∀ s : Nat, s < m → σ 32 (6 * T + s) = τ 114 (4 + 8 * T + 2 + s) ∧ 0 ≤ σ 32 (6 * T + s) ∧ σ 32 (6 * T + s) ≤ 9) ∧ S = psum (fun s => σ 32 (6 * T + s)) m ∧ (m : Int) ≤ S ∧ S ≤ 9 ∧ m ≤ 6
theorem wheel_loop {T E : Nat} {op : Int} {cs : Nat} {σ τ σ1 τ3 : xSt} (hO : TbO T E op cs σ τ) (hT3 : T < 3) (s1k : ∀ a q, a ≠ 2 → ¬ (a = 28 ∧ q = T) → σ1 a q = σ a q) (n3q : ∀ q, (q < 4 + 8 * T ∨ 12 + 8 * T ≤ q) → τ3 114 q = τ 114 q) (n3n : ∀ q, q ≠ T → τ3 118 q = τ 118 q) (hN : NmR (σ1 28 T) (τ3 118 T)) :
    ∀ (j fu fu2 m i : Nat) (S : Int) (s t : xSt), m + j = 7 → j < fu → j < fu2 → WhS σ0 τ0 d n c i T m S σ1 τ3 s t →
    (∃ σ' τ' : xSt, ∃ i' : Nat, f_Table_readWheel_33 fu (m : Int) S s = some (1, σ') ∧ (xbW (f_M_readWheel_62 fu2 ((4 + 8 * T : Nat) : Int) t) fun s0 s => if s0 = 0 then (some (0, s)) else (f_M_readSign 59 s)) = some (1, τ') ∧ TbR σ0 τ0 d n c i' (T + 1) E op cs σ' τ') ∨
    (∃ σ' τ' : xSt, f_Table_readWheel_33 fu (m : Int) S s = some (0, σ') ∧ (xbW (f_M_readWheel_62 fu2 ((4 + 8 * T : Nat) : Int) t) fun s0 s => if s0 = 0 then (some (0, s)) else (f_M_readSign 59 s)) = some (0, τ') ∧ TbB σ0 τ0 σ' τ') := by
  intro j
  induction j with
  | zero =>
    intro fu fu2 m i S s t g1 g2 g3 hW
    obtain ⟨-, -, -, -, -, -, -, -, -, -, -, w1, w2, w3⟩ := hW
    omega
  | succ j ih =>
    intro fu fu2 m i S s t g1 g2 g3 hW
    obtain ⟨fu, rfl⟩ : ∃ n2, fu = n2 + 1 := ⟨fu - 1, by omega⟩
    obtain ⟨fu2, rfl⟩ : ∃ n2, fu2 = n2 + 1 := ⟨fu2 - 1, by omega⟩
    obtain ⟨hL, h9, h10, kX, kM, fX, fM, tb, tb1, hpt, hps, hmS, hS9, m6⟩ := id hW
    obtain ⟨t1, t2, t3, e1, e2, e3, o1, o2, o3, o4, c1, c2, hTh, hEn⟩ := id hO
    have cb : 0 ≤ ((4 + 8 * T : Nat) : Int) ∧ ((4 + 8 * T : Nat) : Int) < 41 := by omega
    have cb1 : 0 ≤ ((4 + 8 * T + 1 : Nat) : Int) ∧ ((4 + 8 * T + 1 : Nat) : Int) < 41 := by omega
    have cT : 0 ≤ (T : Int) ∧ (T : Int) < 3 := by omega
    have T100 : T < 100000 := by omega
    have s27 : s 27 1 = (T : Int) := by rw [fX 27 1 (by decide) (by omega), s1k 27 1 (by decide) (by omega)]; exact t1
    have t0 : t 114 0 = (T : Int) := by rw [fM 114 0 (by decide) (by omega), n3q 0 (by omega)]; exact t2
    have n6 : ¬ (6 : Int) < (m : Int) := by omega
    have go51 : (f_Table_readWheel_33 (fu + 1) (m : Int) S s = f_Table_readWheel_51 (fun z0 z1 sz => f_Table_readWheel_33 fu z0 z1 sz) (m : Int) S s) → (f_M_readWheel_62 (fu2 + 1) ((4 + 8 * T : Nat) : Int) t = f_M_readWheel_80 (fun z0 sz => f_M_readWheel_62 fu2 z0 sz) ((4 + 8 * T : Nat) : Int) t) →
        (∃ σ' τ' : xSt, ∃ i' : Nat, f_Table_readWheel_33 (fu + 1) (m : Int) S s = some (1, σ') ∧ (xbW (f_M_readWheel_62 (fu2 + 1) ((4 + 8 * T : Nat) : Int) t) fun s0 s => if s0 = 0 then (some (0, s)) else (f_M_readSign 59 s)) = some (1, τ') ∧ TbR σ0 τ0 d n c i' (T + 1) E op cs σ' τ') ∨
        (∃ σ' τ' : xSt, f_Table_readWheel_33 (fu + 1) (m : Int) S s = some (0, σ') ∧ (xbW (f_M_readWheel_62 (fu2 + 1) ((4 + 8 * T : Nat) : Int) t) fun s0 s => if s0 = 0 then (some (0, s)) else (f_M_readSign 59 s)) = some (0, τ') ∧ TbB σ0 τ0 σ' τ') := fun x33 m62 => by
      rw [x33, m62]
      clear x33 m62
      have w9 : w32 (9 - S) = 9 - S := w32_o (by omega) (by omega)
      unfold f_Table_readWheel_51 f_M_readWheel_80
      rw [w9]
      clear w9
      rcases hL.hand.num with ⟨b1, b2, b3⟩ | ⟨b1, b2⟩
      · rw [if_pos b2, m_isIn, ← b3, xbR_s]
        by_cases hr : 1 ≤ s 2 7 ∧ s 2 7 ≤ 9 - S
        · have hr9 : 1 ≤ s 2 7 ∧ s 2 7 ≤ 9 := by omega
          have n1 : ¬ s 2 7 < 1 := by omega
          have nS : ¬ 9 < S + s 2 7 := by omega
          have p27 : ¬ 9 - S < s 2 7 := by omega
          have hold : f_Tokens_holdsNumber 1 (9 - S) s = some (1, s) := by
            unfold f_Tokens_holdsNumber
            rw [if_pos b1, if_neg n1, if_neg p27]
          have h10' : ¬ (1 : Int) = 0 := by decide
          have b100 : 4 + 8 * T < 100000 := by omega
          have z1' : -2147483648 ≤ S + s 2 7 := by omega
          have z2' : S + s 2 7 < 2147483648 := by omega
          by_cases hm6 : m = 6
          · obtain ⟨σ', τ', y1, y2, y3, y4, y5, y6⟩ := hL.hand.fail h9 (p := 4) (fun z => by omega)
            have q6 : ¬ (m : Int) < 6 := by omega
            have q6' : (m : Int) = 6 := by omega
            have ew1 : w32 (((4 + 8 * T : Nat) : Int) + 1) = ((4 + 8 * T + 1 : Nat) : Int) := w32_n1 b100
            have ewS : w32 (S + s 2 7) = S + s 2 7 := w32_o z1' z2'
            rw [hold, xbW_s, if_neg h10', if_pos hr9, if_neg h10', ew1, if_pos cb1, Int.toNat_natCast, tb1, ewS, if_neg nS, if_pos cb, Int.toNat_natCast, tb]
            refine Or.inr ⟨σ', τ', ?_, ?_, y3, kX.fail y5, kM.bad y6⟩
            · rw [if_neg q6, y1, xbW_s]; rfl
            · rw [if_pos q6', y2, xbW_s, xbW_s]; rfl
          · have m100 : m < 100000 := by omega
            have cp : 0 ≤ ((6 * T + m : Nat) : Int) ∧ ((6 * T + m : Nat) : Int) < 18 := by omega
            have cq : 0 ≤ ((4 + 8 * T + 2 + m : Nat) : Int) ∧ ((4 + 8 * T + 2 + m : Nat) : Int) < 41 := by omega
            have mlt : (m : Int) < 6 := by omega
            have mne : ¬ (m : Int) = 6 := by omega
            obtain ⟨sa, hsa⟩ : ∃ sa, sa = upS s 32 (6 * T + m) (s 2 7) := ⟨_, rfl⟩
            obtain ⟨ta, hta⟩ : ∃ ta, ta = upS (upS (upS t 114 (4 + 8 * T + 2 + m) (s 2 7)) 114 (4 + 8 * T + 1) (S + s 2 7)) 114 (4 + 8 * T) ((m + 1 : Nat) : Int) := ⟨_, rfl⟩
            have sa2 : ∀ q, sa 2 q = s 2 q := fun q => by rw [hsa, upS_ne (by decide)]
            have e8 : (upS t 114 (4 + 8 * T + 2 + m) (s 2 7)) 111 8 = s 2 7 := by rw [upS_ne (by decide)]; exact b3.symm
            have e1' : (upS t 114 (4 + 8 * T + 2 + m) (s 2 7)) 114 (4 + 8 * T + 1) = S := by rw [upS_nk (by omega)]; exact tb1
            have e0' : (upS (upS t 114 (4 + 8 * T + 2 + m) (s 2 7)) 114 (4 + 8 * T + 1) (S + s 2 7)) 114 (4 + 8 * T) = (m : Int) := by rw [upS_nk (by omega), upS_nk (by omega)]; exact tb
            have u1 : -2147483648 ≤ (T : Int) * 6 := by omega
            have u2 : (T : Int) * 6 < 2147483648 := by omega
            have u3 : (T : Int) * 6 = ((6 * T : Nat) : Int) := by omega
            have u4 : 6 * T + m < 100000 := by omega
            have u5 : 4 + 8 * T + 2 + m < 100000 := by omega
            have ew1 : w32 (((4 + 8 * T : Nat) : Int) + 1) = ((4 + 8 * T + 1 : Nat) : Int) := w32_n1 b100
            have ewS : w32 (S + s 2 7) = S + s 2 7 := w32_o z1' z2'
            have ew2 : w32 ((T : Int) * 6) = ((6 * T : Nat) : Int) := (w32_o u1 u2).trans u3
            have ew3 : w32 (((6 * T : Nat) : Int) + (m : Int)) = ((6 * T + m : Nat) : Int) := w32_nn u4
            have ew4 : w32 (((4 + 8 * T : Nat) : Int) + 2) = ((4 + 8 * T + 2 : Nat) : Int) := w32_n2 b100
            have ew5 : w32 (((4 + 8 * T + 2 : Nat) : Int) + (m : Int)) = ((4 + 8 * T + 2 + m : Nat) : Int) := w32_nn u5
            rw [hold, xbW_s, if_neg h10', if_pos hr9, if_neg h10', ew1, if_pos cb1, Int.toNat_natCast, tb1, ewS, if_neg nS, if_pos cb, Int.toNat_natCast, tb]
            rw [if_pos mlt, s27, ew2, ew3, if_pos cp, Int.toNat_natCast, xlet_s, ← hsa, sa2, ewS, xlet_s, w32_n1 m100, xlet_s, if_neg mne, ew4, ew5, if_pos cb, if_pos cq, Int.toNat_natCast, xlet_s, if_pos cb1, if_pos cb1, e1', e8, ewS, xlet_s, if_pos cb, if_pos cb, e0', w32_n1 m100, xlet_s, ← hta]
            clear ew1 ew2 ew3 ew4 ew5 ewS e8
            have ta111 : ∀ a q, a ≠ 114 → ta a q = t a q := fun a q z => by rw [hta, upS_ne z, upS_ne z, upS_ne z]
            have hLa : LR d n 500 c i sa ta := hL.cg (fun a k z1 z2 => by rw [hsa, upS_ne (by omega)]) (fun q _ _ => ta111 111 q (by decide)) (fun q => ta111 112 q (by decide))
            obtain ⟨s', t', y1, y2, y3, y4, y5⟩ := hLa.go1 (by rw [sa2]; omega) (by rw [sa2]; omega)
            rw [y1, y2, xbR_s, xbR_s]
            have gs : ∀ a q, a ≠ 2 → s' a q = sa a q := fun a q z => y4 a q (fun y => absurd y z)
            have gt : ∀ a q, a ≠ 111 → t' a q = ta a q := fun a q z => y5 a q (fun y => absurd y z)
            have np : ∀ x : Nat, x < m → s' 32 (6 * T + x) = s 32 (6 * T + x) := fun x hx => by rw [gs 32 _ (by decide), hsa, upS_nk (by omega)]
            have nm : s' 32 (6 * T + m) = s 2 7 := by rw [gs 32 _ (by decide), hsa, upS_eq]
            refine ih fu fu2 (m + 1) (i + 1) (S + s 2 7) s' t' (by omega) (by omega) (by omega) ⟨y3, ?_, ?_, (kX.st (fun a q z1 z2 => ?_)).step y4, (kM.st (fun a q z1 z2 => ta111 a q (fun y => z2 (Or.inl y)))).go y5, fun a q z1 z2 => ?_, fun a q z1 z2 => ?_, ?_, ?_, fun x hx => ?_, ?_, ?_, ?_, by omega⟩
            · rw [y4 2 9 (fun _ => by decide), sa2]; exact h9
            · rw [y5 111 10 (fun _ => by decide), ta111 111 10 (by decide)]; exact h10
            · unfold tbW at z2
              rw [hsa, upS_ne (by omega)]
            · rw [gs a q z1, hsa, upS_rd, if_neg (by omega), fX a q z1 z2]
            · rw [gt a q z1]
              by_cases z : a = 114
              · have z2' : ¬ (4 + 8 * T ≤ q ∧ q < 12 + 8 * T) := fun y => z2 ⟨z, y⟩
                rw [z, hta, upS_nk (by omega), upS_nk (by omega), upS_nk (by omega), fM 114 q (by decide) (by omega)]
              · rw [ta111 a q z, fM a q z1 (fun y => z y.1)]
            · rw [gt 114 _ (by decide), hta, upS_eq]
            · rw [gt 114 _ (by decide), hta, upS_nk (by omega), upS_eq]
            · by_cases z : x = m
              · rw [z, nm, gt 114 _ (by decide), hta, upS_nk (by omega), upS_nk (by omega), upS_eq]
                exact ⟨rfl, by omega, by omega⟩
              · rw [np x (by omega), gt 114 _ (by decide), hta, upS_nk (by omega), upS_nk (by omega), upS_nk (by omega)]
                exact hpt x (by omega)
            · show S + s 2 7 = psum (fun x => s' 32 (6 * T + x)) m + s' 32 (6 * T + m)
              rw [nm, psum_cg m np, ← hps]
            · omega
            · omega
        · obtain ⟨σ', τ', y1, y2, y3, y4, y5, y6⟩ := hL.hand.fail h9 (p := 2) (fun z => by omega)
          have h30 : f_Tokens_holdsNumber_30 s = some (0, σ') := by
            unfold f_Tokens_holdsNumber_30
            rw [y1, xbW_s, if_pos rfl]
          have hold : f_Tokens_holdsNumber 1 (9 - S) s = some (0, σ') := by
            unfold f_Tokens_holdsNumber
            rw [if_pos b1]
            by_cases z : s 2 7 < 1
            · rw [if_pos z, h30]
            · rw [if_neg z, if_pos (by omega), h30]
          have h125 : f_M_readWheel_125 t = some (0, τ') := by
            unfold f_M_readWheel_125
            rw [y2, xbW_s]
            rfl
          refine Or.inr ⟨σ', τ', ?_, ?_, y3, kX.fail y5, kM.bad y6⟩
          · rw [hold, xbW_s, if_pos rfl]
          · by_cases z : 1 ≤ s 2 7 ∧ s 2 7 ≤ 9
            · have hb9 : 9 < w32 (S + s 2 7) := by
                rw [w32_o (by omega) (by omega)]
                omega
              have ew1 : w32 (((4 + 8 * T : Nat) : Int) + 1) = ((4 + 8 * T + 1 : Nat) : Int) := w32_n1 (by omega)
              rw [if_pos z, if_neg (by decide), ew1, if_pos cb1, Int.toNat_natCast, tb1, if_pos hb9, h125, xbW_s, if_pos rfl]
            · rw [if_neg z, if_pos rfl, h125, xbW_s, if_pos rfl]
      · obtain ⟨σ', τ', y1, y2, y3, y4, y5, y6⟩ := hL.hand.fail h9 (p := 1) (fun _ => rfl)
        refine Or.inr ⟨σ', τ', ?_, ?_, y3, kX.fail y5, kM.bad y6⟩
        · have hold : f_Tokens_holdsNumber 1 (9 - S) s = some (0, σ') := by
            unfold f_Tokens_holdsNumber
            rw [if_neg b1, y1, xbW_s]
            rfl
          rw [hold, xbW_s, if_pos rfl]
        · rw [if_neg b2, y2, xbW_s, xbW_s]; rfl
    sorry
end
