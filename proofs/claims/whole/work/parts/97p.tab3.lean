/-! TABLES read in lock-step: wheels -/
theorem m_wheel41 {b : Nat} (hb : b + 8 ≤ 41) : ∀ (j fu i : Nat) (τ : xSt), i + j = 8 → j < fu → ∃ τ', f_M_readWheel_41 fu (b : Int) (i : Int) τ = f_M_readWheel_62 1000000 (b : Int) τ' ∧ (∀ k, i ≤ k → k < 8 → τ' 114 (b + k) = 0) ∧ (∀ q, (q < b + i ∨ b + 8 ≤ q) → τ' 114 q = τ 114 q) ∧ ∀ a q, a ≠ 114 → τ' a q = τ a q := by
  intro j
  induction j with
  | zero =>
    intro fu i τ h1 h2
    obtain ⟨fu, rfl⟩ : ∃ n2, fu = n2 + 1 := ⟨fu - 1, by omega⟩
    have hi : i = 8 := by omega
    have n8 : ¬ ((8 : Nat) : Int) < 8 := by decide
    refine ⟨τ, ?_, fun k a b => by omega, fun _ _ => rfl, fun _ _ _ => rfl⟩
    rw [hi, f_M_readWheel_41.eq_2, if_neg n8]
  | succ j ih =>
    intro fu i τ h1 h2
    obtain ⟨fu, rfl⟩ : ∃ n2, fu = n2 + 1 := ⟨fu - 1, by omega⟩
    have b1 : (i : Int) < 8 := by omega
    have b3 : i < 100000 := by omega
    have b4 : 0 ≤ ((b + i : Nat) : Int) ∧ ((b + i : Nat) : Int) < 41 := by omega
    have e1 : w32 ((b : Int) + (i : Int)) = ((b + i : Nat) : Int) := w32_nn (by omega)
    obtain ⟨τ', k1, k2, k3, k4⟩ := ih fu (i + 1) (upS τ 114 (b + i) 0) (by omega) (by omega)
    refine ⟨τ', ?_, fun k hk hk2 => ?_, fun q hq => ?_, fun a q ha => by rw [k4 a q ha, upS_ne ha]⟩
    · rw [f_M_readWheel_41.eq_2, if_pos b1, e1, if_pos b4, Int.toNat_natCast, xlet_s, w32_n1 b3, xlet_s]
      exact k1
    · by_cases he : k = i
      · subst he
        rw [k3 _ (by omega), upS_eq]
      · exact k2 k (by omega) hk2
    · rw [k3 q (by omega), upS_nk (by omega)]
section
variable {σ0 τ0 : xSt} {d : Nat → Int} {n c : Nat}
def WhS (σ0 τ0 : xSt) (d : Nat → Int) (n c i T m : Nat) (S : Int) (σ1 τ3 σ τ : xSt) : Prop := LR d n 500 c i σ τ ∧ σ 2 9 = 0 ∧ τ 111 10 = 0 ∧ KpX tbW σ0 σ ∧ KpM tbV τ0 τ ∧ (∀ a q, a ≠ 2 → ¬ (a = 32 ∧ 6 * T ≤ q ∧ q < 6 * T + 6) → σ a q = σ1 a q) ∧ (∀ a q, a ≠ 111 → ¬ (a = 114 ∧ 4 + 8 * T ≤ q ∧ q < 12 + 8 * T) → τ a q = τ3 a q) ∧
  τ 114 (4 + 8 * T) = (m : Int) ∧ τ 114 (4 + 8 * T + 1) = S ∧ (∀ s : Nat, s < m → σ 32 (6 * T + s) = τ 114 (4 + 8 * T + 2 + s) ∧ 0 ≤ σ 32 (6 * T + s) ∧ σ 32 (6 * T + s) ≤ 9) ∧ S = psum (fun s => σ 32 (6 * T + s)) m ∧ (m : Int) ≤ S ∧ S ≤ 9 ∧ m ≤ 6
theorem wheel_loop {T E : Nat} {op : Int} {cs : Nat} {σ τ σ1 τ3 : xSt} (hO : TbO T E op cs σ τ) (hT3 : T < 3) (s1k : ∀ a q, a ≠ 2 → ¬ (a = 28 ∧ q = T) → σ1 a q = σ a q) (n3q : ∀ q, (q < 4 + 8 * T ∨ 12 + 8 * T ≤ q) → τ3 114 q = τ 114 q) (n3n : ∀ q, q ≠ T → τ3 118 q = τ 118 q) (hN : NmR (σ1 28 T) (τ3 118 T)) :
    ∀ (j fu fu2 m i : Nat) (S : Int) (s t : xSt), m + j = 7 → j < fu → j < fu2 → WhS σ0 τ0 d n c i T m S σ1 τ3 s t →
    (∃ σ' τ' : xSt, ∃ i' : Nat, f_Table_readWheel_33 fu (m : Int) S s = some (1, σ') ∧ (xbW (f_M_readWheel_62 fu2 ((4 + 8 * T : Nat) : Int) t) fun s0 s => if s0 = 0 then (some (0, s)) else (f_M_readSign 59 s)) = some (1, τ') ∧ TbR σ0 τ0 d n c i' (T + 1) E op cs σ' τ') ∨
    (∃ σ' τ' : xSt, f_Table_readWheel_33 fu (m : Int) S s = some (0, σ') ∧ (xbW (f_M_readWheel_62 fu2 ((4 + 8 * T : Nat) : Int) t) fun s0 s => if s0 = 0 then (some (0, s)) else (f_M_readSign 59 s)) = some (0, τ') ∧ TbB σ0 τ0 σ' τ') := by
  intro j
  induction j with
  | zero =>
    intro fu fu2 m i S s t g1 g2 g3 hW
    obtain ⟨-, -, -, -, -, -, -, -, -, -, -, w1, w2, w3⟩ := hW
    omega
  | succ j ih =>
    intro fu fu2 m i S s t g1 g2 g3 hW
    obtain ⟨fu, rfl⟩ : ∃ n2, fu = n2 + 1 := ⟨fu - 1, by omega⟩
    obtain ⟨fu2, rfl⟩ : ∃ n2, fu2 = n2 + 1 := ⟨fu2 - 1, by omega⟩
    obtain ⟨hL, h9, h10, kX, kM, fX, fM, tb, tb1, hpt, hps, hmS, hS9, m6⟩ := id hW
    obtain ⟨t1, t2, t3, e1, e2, e3, o1, o2, o3, o4, c1, c2, hTh, hEn⟩ := id hO
    have cb : 0 ≤ ((4 + 8 * T : Nat) : Int) ∧ ((4 + 8 * T : Nat) : Int) < 41 := by omega
    have cb1 : 0 ≤ ((4 + 8 * T + 1 : Nat) : Int) ∧ ((4 + 8 * T + 1 : Nat) : Int) < 41 := by omega
    have cT : 0 ≤ (T : Int) ∧ (T : Int) < 3 := by omega
    have T100 : T < 100000 := by omega
    have s27 : s 27 1 = (T : Int) := by rw [fX 27 1 (by decide) (by omega), s1k 27 1 (by decide) (by omega)]; exact t1
    have t0 : t 114 0 = (T : Int) := by rw [fM 114 0 (by decide) (by omega), n3q 0 (by omega)]; exact t2
    have n6 : ¬ (6 : Int) < (m : Int) := by omega
    have go51 : (f_Table_readWheel_33 (fu + 1) (m : Int) S s = f_Table_readWheel_51 (fun z0 z1 sz => f_Table_readWheel_33 fu z0 z1 sz) (m : Int) S s) → (f_M_readWheel_62 (fu2 + 1) ((4 + 8 * T : Nat) : Int) t = f_M_readWheel_80 (fun z0 sz => f_M_readWheel_62 fu2 z0 sz) ((4 + 8 * T : Nat) : Int) t) →
        (∃ σ' τ' : xSt, ∃ i' : Nat, f_Table_readWheel_33 (fu + 1) (m : Int) S s = some (1, σ') ∧ (xbW (f_M_readWheel_62 (fu2 + 1) ((4 + 8 * T : Nat) : Int) t) fun s0 s => if s0 = 0 then (some (0, s)) else (f_M_readSign 59 s)) = some (1, τ') ∧ TbR σ0 τ0 d n c i' (T + 1) E op cs σ' τ') ∨
        (∃ σ' τ' : xSt, f_Table_readWheel_33 (fu + 1) (m : Int) S s = some (0, σ') ∧ (xbW (f_M_readWheel_62 (fu2 + 1) ((4 + 8 * T : Nat) : Int) t) fun s0 s => if s0 = 0 then (some (0, s)) else (f_M_readSign 59 s)) = some (0, τ') ∧ TbB σ0 τ0 σ' τ') := fun x33 m62 => by
      rw [x33, m62]
      clear x33 m62
      have w9 : w32 (9 - S) = 9 - S := w32_o (by omega) (by omega)
      unfold f_Table_readWheel_51 f_M_readWheel_80
      rw [w9]
      clear w9
      rcases hL.hand.num with ⟨b1, b2, b3⟩ | ⟨b1, b2⟩
      · rw [if_pos b2, m_isIn, ← b3, xbR_s]
        by_cases hr : 1 ≤ s 2 7 ∧ s 2 7 ≤ 9 - S
        · have hr9 : 1 ≤ s 2 7 ∧ s 2 7 ≤ 9 := by omega
          have n1 : ¬ s 2 7 < 1 := by omega
          have nS : ¬ 9 < S + s 2 7 := by omega
          have p27 : ¬ 9 - S < s 2 7 := by omega
          have hold : f_Tokens_holdsNumber 1 (9 - S) s = some (1, s) := by
            unfold f_Tokens_holdsNumber
            rw [if_pos b1, if_neg n1, if_neg p27]
          have h10' : ¬ (1 : Int) = 0 := by decide
          have b100 : 4 + 8 * T < 100000 := by omega
          have z1' : -2147483648 ≤ S + s 2 7 := by omega
          have z2' : S + s 2 7 < 2147483648 := by omega
          by_cases hm6 : m = 6
          · obtain ⟨σ', τ', y1, y2, y3, y4, y5, y6⟩ := hL.hand.fail h9 (p := 4) (fun z => by omega)
            have q6 : ¬ (m : Int) < 6 := by omega
            have q6' : (m : Int) = 6 := by omega
            have ew1 : w32 (((4 + 8 * T : Nat) : Int) + 1) = ((4 + 8 * T + 1 : Nat) : Int) := w32_n1 b100
            have ewS : w32 (S + s 2 7) = S + s 2 7 := w32_o z1' z2'
            rw [hold, xbW_s, if_neg h10', if_pos hr9, if_neg h10', ew1, if_pos cb1, Int.toNat_natCast, tb1, ewS, if_neg nS, if_pos cb, Int.toNat_natCast, tb]
            refine Or.inr ⟨σ', τ', ?_, ?_, y3, kX.fail y5, kM.bad y6⟩
            · rw [if_neg q6, y1, xbW_s]; rfl
            · rw [if_pos q6', y2, xbW_s, xbW_s]; rfl
          · have m100 : m < 100000 := by omega
            have cp : 0 ≤ ((6 * T + m : Nat) : Int) ∧ ((6 * T + m : Nat) : Int) < 18 := by omega
            have cq : 0 ≤ ((4 + 8 * T + 2 + m : Nat) : Int) ∧ ((4 + 8 * T + 2 + m : Nat) : Int) < 41 := by omega
            have mlt : (m : Int) < 6 := by omega
            have mne : ¬ (m : Int) = 6 := by omega
            obtain ⟨sa, hsa⟩ : ∃ sa, sa = upS s 32 (6 * T + m) (s 2 7) := ⟨_, rfl⟩
            obtain ⟨ta, hta⟩ : ∃ ta, ta = upS (upS (upS t 114 (4 + 8 * T + 2 + m) (s 2 7)) 114 (4 + 8 * T + 1) (S + s 2 7)) 114 (4 + 8 * T) ((m + 1 : Nat) : Int) := ⟨_, rfl⟩
            have sa2 : ∀ q, sa 2 q = s 2 q := fun q => by rw [hsa, upS_ne (by decide)]
            have e8 : (upS t 114 (4 + 8 * T + 2 + m) (s 2 7)) 111 8 = s 2 7 := by rw [upS_ne (by decide)]; exact b3.symm
            have e1' : (upS t 114 (4 + 8 * T + 2 + m) (s 2 7)) 114 (4 + 8 * T + 1) = S := by rw [upS_nk (by omega)]; exact tb1
            have e0' : (upS (upS t 114 (4 + 8 * T + 2 + m) (s 2 7)) 114 (4 + 8 * T + 1) (S + s 2 7)) 114 (4 + 8 * T) = (m : Int) := by rw [upS_nk (by omega), upS_nk (by omega)]; exact tb
            have u1 : -2147483648 ≤ (T : Int) * 6 := by omega
            have u2 : (T : Int) * 6 < 2147483648 := by omega
            have u3 : (T : Int) * 6 = ((6 * T : Nat) : Int) := by omega
            have u4 : 6 * T + m < 100000 := by omega
            have u5 : 4 + 8 * T + 2 + m < 100000 := by omega
            have ew1 : w32 (((4 + 8 * T : Nat) : Int) + 1) = ((4 + 8 * T + 1 : Nat) : Int) := w32_n1 b100
            have ewS : w32 (S + s 2 7) = S + s 2 7 := w32_o z1' z2'
            have ew2 : w32 ((T : Int) * 6) = ((6 * T : Nat) : Int) := (w32_o u1 u2).trans u3
            have ew3 : w32 (((6 * T : Nat) : Int) + (m : Int)) = ((6 * T + m : Nat) : Int) := w32_nn u4
            have ew4 : w32 (((4 + 8 * T : Nat) : Int) + 2) = ((4 + 8 * T + 2 : Nat) : Int) := w32_n2 b100
            have ew5 : w32 (((4 + 8 * T + 2 : Nat) : Int) + (m : Int)) = ((4 + 8 * T + 2 + m : Nat) : Int) := w32_nn u5
            rw [hold, xbW_s, if_neg h10', if_pos hr9, if_neg h10', ew1, if_pos cb1, Int.toNat_natCast, tb1, ewS, if_neg nS, if_pos cb, Int.toNat_natCast, tb]
            rw [if_pos mlt, s27, ew2, ew3, if_pos cp, Int.toNat_natCast, xlet_s, ← hsa, sa2, ewS, xlet_s, w32_n1 m100, xlet_s, if_neg mne, ew4, ew5, if_pos cb, if_pos cq, Int.toNat_natCast, xlet_s, if_pos cb1, if_pos cb1, e1', e8, ewS, xlet_s, if_pos cb, if_pos cb, e0', w32_n1 m100, xlet_s, ← hta]
            clear ew1 ew2 ew3 ew4 ew5 ewS e8
            have ta111 : ∀ a q, a ≠ 114 → ta a q = t a q := fun a q z => by rw [hta, upS_ne z, upS_ne z, upS_ne z]
            have hLa : LR d n 500 c i sa ta := hL.cg (fun a k z1 z2 => by rw [hsa, upS_ne (by omega)]) (fun q _ _ => ta111 111 q (by decide)) (fun q => ta111 112 q (by decide))
            obtain ⟨s', t', y1, y2, y3, y4, y5⟩ := hLa.go1 (by rw [sa2]; omega) (by rw [sa2]; omega)
            rw [y1, y2, xbR_s, xbR_s]
            have gs : ∀ a q, a ≠ 2 → s' a q = sa a q := fun a q z => y4 a q (fun y => absurd y z)
            have gt : ∀ a q, a ≠ 111 → t' a q = ta a q := fun a q z => y5 a q (fun y => absurd y z)
            have np : ∀ x : Nat, x < m → s' 32 (6 * T + x) = s 32 (6 * T + x) := fun x hx => by rw [gs 32 _ (by decide), hsa, upS_nk (by omega)]
            have nm : s' 32 (6 * T + m) = s 2 7 := by rw [gs 32 _ (by decide), hsa, upS_eq]
            refine ih fu fu2 (m + 1) (i + 1) (S + s 2 7) s' t' (by omega) (by omega) (by omega) ⟨y3, ?_, ?_, (kX.st (fun a q z1 z2 => ?_)).step y4, (kM.st (fun a q z1 z2 => ta111 a q (fun y => z2 (Or.inl y)))).go y5, fun a q z1 z2 => ?_, fun a q z1 z2 => ?_, ?_, ?_, fun x hx => ?_, ?_, ?_, ?_, by omega⟩
            · rw [y4 2 9 (fun _ => by decide), sa2]; exact h9
            · rw [y5 111 10 (fun _ => by decide), ta111 111 10 (by decide)]; exact h10
            · unfold tbW at z2
              rw [hsa, upS_ne (by omega)]
            · rw [gs a q z1, hsa, upS_rd, if_neg (by omega), fX a q z1 z2]
            · rw [gt a q z1]
              by_cases z : a = 114
              · have z2' : ¬ (4 + 8 * T ≤ q ∧ q < 12 + 8 * T) := fun y => z2 ⟨z, y⟩
                rw [z, hta, upS_nk (by omega), upS_nk (by omega), upS_nk (by omega), fM 114 q (by decide) (by omega)]
              · rw [ta111 a q z, fM a q z1 (fun y => z y.1)]
            · rw [gt 114 _ (by decide), hta, upS_eq]
            · rw [gt 114 _ (by decide), hta, upS_nk (by omega), upS_eq]
            · by_cases z : x = m
              · rw [z, nm, gt 114 _ (by decide), hta, upS_nk (by omega), upS_nk (by omega), upS_eq]
                exact ⟨rfl, by omega, by omega⟩
              · rw [np x (by omega), gt 114 _ (by decide), hta, upS_nk (by omega), upS_nk (by omega), upS_nk (by omega)]
                exact hpt x (by omega)
            · show S + s 2 7 = psum (fun x => s' 32 (6 * T + x)) m + s' 32 (6 * T + m)
              rw [nm, psum_cg m np, ← hps]
            · omega
            · omega
        · obtain ⟨σ', τ', y1, y2, y3, y4, y5, y6⟩ := hL.hand.fail h9 (p := 2) (fun z => by omega)
          have h30 : f_Tokens_holdsNumber_30 s = some (0, σ') := by
            unfold f_Tokens_holdsNumber_30
            rw [y1, xbW_s, if_pos rfl]
          have hold : f_Tokens_holdsNumber 1 (9 - S) s = some (0, σ') := by
            unfold f_Tokens_holdsNumber
            rw [if_pos b1]
            by_cases z : s 2 7 < 1
            · rw [if_pos z, h30]
            · rw [if_neg z, if_pos (by omega), h30]
          have h125 : f_M_readWheel_125 t = some (0, τ') := by
            unfold f_M_readWheel_125
            rw [y2, xbW_s]
            rfl
          refine Or.inr ⟨σ', τ', ?_, ?_, y3, kX.fail y5, kM.bad y6⟩
          · rw [hold, xbW_s, if_pos rfl]
          · by_cases z : 1 ≤ s 2 7 ∧ s 2 7 ≤ 9
            · have hb9 : 9 < w32 (S + s 2 7) := by
                rw [w32_o (by omega) (by omega)]
                omega
              have ew1 : w32 (((4 + 8 * T : Nat) : Int) + 1) = ((4 + 8 * T + 1 : Nat) : Int) := w32_n1 (by omega)
              rw [if_pos z, if_neg (by decide), ew1, if_pos cb1, Int.toNat_natCast, tb1, if_pos hb9, h125, xbW_s, if_pos rfl]
            · rw [if_neg z, if_pos rfl, h125, xbW_s, if_pos rfl]
      · obtain ⟨σ', τ', y1, y2, y3, y4, y5, y6⟩ := hL.hand.fail h9 (p := 1) (fun _ => rfl)
        refine Or.inr ⟨σ', τ', ?_, ?_, y3, kX.fail y5, kM.bad y6⟩
        · have hold : f_Tokens_holdsNumber 1 (9 - S) s = some (0, σ') := by
            unfold f_Tokens_holdsNumber
            rw [if_neg b1, y1, xbW_s]
            rfl
          rw [hold, xbW_s, if_pos rfl]
        · rw [if_neg b2, y2, xbW_s, xbW_s]; rfl
    have q7 : ¬ (6 : Int) < (m : Int) := n6
    by_cases hm2 : (m : Int) < 2
    · refine go51 ?_ ?_
      · rw [f_Table_readWheel_33.eq_2, if_neg n6, if_pos hm2]
      · rw [f_M_readWheel_62.eq_2, if_pos cb, Int.toNat_natCast, tb, if_pos hm2]
    · by_cases h5 : s 2 6 = 5
      · have h57 : t 111 7 = 3 := by
          rcases hL.hand.num with ⟨b1, b2, b3⟩ | ⟨b1, b2⟩
          · exact b2
          · exact absurd h5 b1
        refine go51 ?_ ?_
        · rw [f_Table_readWheel_33.eq_2, if_neg n6, if_neg hm2]
          unfold f_Tokens_isNumber
          rw [if_pos h5, xbR_s, if_neg (by decide)]
        · rw [f_M_readWheel_62.eq_2, if_pos cb, Int.toNat_natCast, tb, if_neg hm2, if_pos h57]
      · have h57 : ¬ t 111 7 = 3 := by
          rcases hL.hand.num with ⟨b1, b2, b3⟩ | ⟨b1, b2⟩
          · exact absurd b1 h5
          · exact b2
        obtain ⟨sf, hsf⟩ : ∃ sf, sf = upS (upS (upS (upS s 29 T 0) 30 T (m : Int)) 31 T S) 27 1 ((T + 1 : Nat) : Int) := ⟨_, rfl⟩
        obtain ⟨tf, htf⟩ : ∃ tf, tf = upS t 114 0 ((T + 1 : Nat) : Int) := ⟨_, rfl⟩
        have x33 : f_Table_readWheel_33 (fu + 1) (m : Int) S s = (xbW (f_Tokens_pass 59 sf) fun r9 σ10 => some (xnb r9, σ10)) := by
          rw [f_Table_readWheel_33.eq_2, if_neg n6, if_neg hm2]
          unfold f_Tokens_isNumber
          rw [if_neg h5, xbR_s, if_pos rfl]
          unfold f_Table_readWheel_112
          rw [s27, if_pos cT, Int.toNat_natCast, xlet_s, upS_ne (by decide), s27, if_pos cT, Int.toNat_natCast, xlet_s, upS_ne (by decide), upS_ne (by decide), s27, if_pos cT, Int.toNat_natCast, xlet_s, upS_ne (by decide), upS_ne (by decide), upS_ne (by decide), s27, w32_n1 T100, xlet_s, ← hsf]
        have m62 : (xbW (f_M_readWheel_62 (fu2 + 1) ((4 + 8 * T : Nat) : Int) t) fun s0 s => if s0 = 0 then (some (0, s)) else (f_M_readSign 59 s)) = f_M_readSign 59 tf := by
          rw [f_M_readWheel_62.eq_2, if_pos cb, Int.toNat_natCast, tb, if_neg hm2, if_neg h57, t0, w32_n1 T100, xlet_s, ← htf, xbW_s, if_neg (by decide)]
        rw [x33, m62]
        clear x33 m62 go51 ih
        have hLf : LR d n 500 c i sf tf := hL.cg (fun a k z1 z2 => by rw [hsf, upS_ne (by omega), upS_ne (by omega), upS_ne (by omega), upS_ne (by omega)]) (fun q _ _ => by rw [htf, upS_ne (by decide)]) (fun q => by rw [htf, upS_ne (by decide)])
        have h9f : sf 2 9 = 0 := by rw [hsf, upS_ne (by decide), upS_ne (by decide), upS_ne (by decide), upS_ne (by decide)]; exact h9
        have kXf : KpX tbW σ0 sf := kX.st (fun a q z1 z2 => by
          unfold tbW at z2
          rw [hsf, upS_ne (by omega), upS_ne (by omega), upS_ne (by omega), upS_ne (by omega)])
        have kMf : KpM tbV τ0 tf := kM.st (fun a q z1 z2 => by rw [htf, upS_ne (fun y => z2 (Or.inl y))])
        rcases pass_lock hLf h9f 59 with ⟨σ', τ', w1, w2, w3, w4, w5⟩ | ⟨σ', τ', w1, w2, w3, w4, w5, w6⟩
        · have gX : ∀ a q, a ≠ 2 → σ' a q = sf a q := fun a q z => w4 a q (fun y => absurd y z)
          have gM : ∀ a q, a ≠ 111 → τ' a q = tf a q := fun a q z => w5 a q (fun y => absurd y z)
          have kf : ∀ a q, ¬ (a = 27 ∧ q = 1) → ¬ (29 ≤ a ∧ a ≤ 31 ∧ q = T) → sf a q = s a q := fun a q z1 z2 => by
            rw [hsf, upS_rd, if_neg z1, upS_rd, if_neg (by omega), upS_rd, if_neg (by omega), upS_rd, if_neg (by omega)]
          have kg : ∀ a q, ¬ (a = 114 ∧ q = 0) → tf a q = t a q := fun a q z => by rw [htf, upS_rd, if_neg z]
          have cs8 : cs < 8 := by
            have := (p2T hT3).1
            omega
          have q2 := (p2T hT3).2
          have bn := (bit_new ⟨cs, cs8⟩ ⟨T, hT3⟩ ⟨0, by decide⟩ c2).2.1
          have bn : (cs : Int) / ((2 ^ T : Nat) : Int) % 2 = 0 := bn
          refine Or.inl ⟨σ', τ', i + 1, by rw [w1, xbW_s]; rfl, w2, w3, ?_, ?_, kXf.step w4, kMf.go w5, ?_⟩
          · rw [w4 2 9 (fun _ => by decide)]; exact h9f
          · rw [w5 111 10 (fun _ => by decide), kg 111 10 (by omega)]; exact h10
          · refine thing_fin hO hT3 ?_ ?_ ?_ ?_ o3 (by omega) (fun t ht => Iff.rfl) ?_ (by omega) (fun t ht => rfl) (fun a q x1 x2 x3 => ?_) (fun q hq => ?_) (fun a q x1 x2 => ?_) ?_ (fun q x1 x2 x3 x4 => ?_) (fun q hq => ?_) ?_
            · rw [gX 27 1 (by decide), hsf, upS_eq]
            · rw [gM 114 0 (by decide), htf, upS_eq]
            · rw [gX 27 3 (by decide), kf 27 3 (by omega) (by omega), fX 27 3 (by decide) (by omega), s1k 27 3 (by decide) (by omega)]; exact o1
            · rw [gM 114 2 (by decide), kg 114 2 (by omega), fM 114 2 (by decide) (by omega), n3q 2 (by omega)]; exact o2
            · rw [gM 114 40 (by decide), kg 114 40 (by omega), fM 114 40 (by decide) (by omega), n3q 40 (by omega)]; exact c1
            · rw [gX a q (by omega), kf a q (by omega) (by omega), fX a q (by omega) (by omega), s1k a q (by omega) (by omega)]
            · rw [gX 32 q (by decide), kf 32 q (by omega) (by omega), fX 32 q (by decide) (by omega), s1k 32 q (by decide) (by omega)]
            · rw [gX a q (by omega), kf a q (by omega) (by omega), fX a q (by omega) (by omega), s1k a q (by omega) (by omega)]
            · rw [gX 27 2 (by decide), kf 27 2 (by omega) (by omega), fX 27 2 (by decide) (by omega), s1k 27 2 (by decide) (by omega)]
            · rw [gM 114 q (by decide), kg 114 q (by omega), fM 114 q (by decide) (by omega), n3q q x4]
            · rw [gM 118 q (by decide), kg 118 q (by omega), fM 118 q (by decide) (by omega), n3n q hq]
            · have f30 : σ' 30 T = (m : Int) := by rw [gX 30 T (by decide), hsf, upS_ne (by decide), upS_ne (by decide), upS_eq]
              have f31 : σ' 31 T = S := by rw [gX 31 T (by decide), hsf, upS_ne (by decide), upS_eq]
              have f29 : σ' 29 T = 0 := by rw [gX 29 T (by decide), hsf, upS_ne (by decide), upS_ne (by decide), upS_ne (by decide), upS_eq]
              have f32 : ∀ x, σ' 32 x = s 32 x := fun x => by rw [gX 32 x (by decide), kf 32 x (by omega) (by omega)]
              have f114 : ∀ x, x ≠ 0 → τ' 114 x = t 114 x := fun x hx => by rw [gM 114 x (by decide), kg 114 x (by omega)]
              have e5 : τ' 114 (5 + 8 * T) = S := by rw [show 5 + 8 * T = 4 + 8 * T + 1 by omega, f114 _ (by omega)]; exact tb1
              unfold ThD
              rw [f30, f31, f29, f114 (4 + 8 * T) (by omega), tb, e5, bn]
              refine ⟨rfl, by omega, by omega, rfl, by omega, hS9, fun x hx => ?_, Or.inl rfl, rfl, ?_, fun z => by omega, fun z => ⟨by omega, ?_⟩⟩
              · have hx : x < m := by omega
                rw [f32, show 6 + 8 * T + x = 4 + 8 * T + 2 + x by omega, f114 _ (by omega)]
                exact hpt x hx
              · rw [gX 28 T (by decide), kf 28 T (by omega) (by omega), fX 28 T (by decide) (by omega), gM 118 T (by decide), kg 118 T (by omega), fM 118 T (by decide) (by omega)]
                exact hN
              · rw [Int.toNat_natCast, psum_cg m (fun x _ => f32 (6 * T + x))]
                exact hps
        · refine Or.inr ⟨σ', τ', by rw [w1, xbW_s]; rfl, w2, w3, kXf.fail w5, kMf.bad w6⟩
theorem wheel_line {i T E : Nat} {op : Int} {cs : Nat} {σ τ : xSt} (hR : TbR σ0 τ0 d n c i T E op cs σ τ) (h3 : σ 2 6 = 3) (m7 : τ 111 7 = 2) :
    (∃ σ' τ' i', f_Table_readWheel σ = some (1, σ') ∧ mLine f_M_readWheel τ = some (1, τ') ∧ TbR σ0 τ0 d n c i' (T + 1) E op cs σ' τ') ∨ (∃ σ' τ', f_Table_readWheel σ = some (0, σ') ∧ mLine f_M_readWheel τ = some (0, τ') ∧ TbB σ0 τ0 σ' τ') := by
  obtain ⟨hL, h9, h10, kX, kM, hO⟩ := hR
  obtain ⟨t1, t2, t3, e1, e2, e3, o1, o2, o3, o4, c1, c2, hT, hE⟩ := id hO
  by_cases hT3 : T < 3
  · have x28 := name_lock hL h9 hO h3 (a2 := 28) (p := T) (lim := 3) (slot := T) (Or.inl rfl) lay28 hT3 (by omega)
    have mc : f_M_readWheel τ = (xbW (xbR (f_M_go τ) fun σ4 => f_M_readNew (T : Int) σ4) fun r5 σ6 => if r5 = 0 then (some (0, σ6)) else (f_M_readWheel_41 1000000 ((4 + 8 * T : Nat) : Int) 0 σ6)) := by
      have ew : w32 (4 + w32 (8 * (T : Int))) = ((4 + 8 * T : Nat) : Int) := by
        rw [w32_8n (by omega)]
        exact (w32_o (by omega) (by omega)).trans (by omega)
      unfold f_M_readWheel
      rw [t2, xlet_s, if_neg (show ¬ (T : Int) = 3 by omega), ew]
      cases f_M_go τ with
      | none => rfl
      | some s =>
        rw [xbR_s, xbR_s]
        cases f_M_readNew (T : Int) s with
        | none => rw [xbW_n, xbW_n]
        | some r =>
          obtain ⟨r5, s6⟩ := r
          rw [xbW_s, xbW_s, xlet_s]
    rcases x28 with ⟨σ1, τ1, a1, a2, a3, a4, a5, a6⟩ | ⟨σ1, τ1, a1, a2, a3, a4, a5⟩
    · obtain ⟨τ3, k1, k2, k3, k4⟩ := m_wheel41 (b := 4 + 8 * T) (by omega) 8 1000000 0 τ1 (by decide) (by decide)
      rw [c0n] at k1
      have g114 : ∀ q, τ1 114 q = τ 114 q := fun q => a6 114 q (fun y => absurd y (by decide)) (fun y => absurd y.1 (by decide))
      have s1k : ∀ a q, a ≠ 2 → ¬ (a = 28 ∧ q = T) → σ1 a q = σ a q := fun a q z1 z2 => a5 a q (fun y => absurd y z1) z2
      have s271 : σ1 27 1 = (T : Int) := by rw [s1k 27 1 (by decide) (by omega)]; exact t1
      have cls : f_Table_readWheel σ = f_Table_readWheel_33 1000000 ((0 : Nat) : Int) 0 σ1 := by
        unfold f_Table_readWheel
        rw [t1, a1, xbW_s, if_neg (by decide), s271, x_isWithin, if_pos (show 0 ≤ (T : Int) ∧ (T : Int) < 3 by omega), xbR_s, if_neg (by decide)]
        rfl
      have mdl : mLine f_M_readWheel τ = (xbW (f_M_readWheel_62 1000000 ((4 + 8 * T : Nat) : Int) τ3) fun s0 s => if s0 = 0 then (some (0, s)) else (f_M_readSign 59 s)) := by
        unfold mLine
        rw [mc, a2, xbW_s, if_neg (by decide), k1]
      rw [cls, mdl]
      refine wheel_loop hO hT3 s1k (fun q z => by rw [k3 q (by omega), g114]) (fun q z => by rw [k4 118 q (by decide), a6 118 q (fun y => absurd y (by decide)) (fun y => z y.2)]) (by rw [k4 118 T (by decide)]; exact a4) 7 1000000 1000000 0 (i + 2) 0 σ1 τ3 (by decide) (by decide) (by decide) ⟨a3.cg (fun _ _ _ _ => rfl) (fun q _ _ => k4 111 q (by decide)) (fun q => k4 112 q (by decide)), ?_, ?_, kX.st (fun a q z1 z2 => s1k a q (by omega) (fun y => z2 (by unfold tbW; omega))), kM.st (fun a q z1 z2 => ?_), fun _ _ _ _ => rfl, fun _ _ _ _ => rfl, ?_, ?_, fun s hs => absurd hs (Nat.not_lt_zero s), rfl, by decide, by decide, by decide⟩
      · rw [a5 2 9 (fun _ => by decide) (by omega)]; exact h9
      · rw [k4 111 10 (by decide), a6 111 10 (fun _ => by decide) (by omega)]; exact h10
      · rw [k4 a q (fun y => z2 (Or.inl y)), a6 a q (fun y => by have := z1 y; omega) (fun y => z2 (Or.inr (Or.inl y.1)))]
      · have := k2 0 (by decide) (by decide)
        rw [Nat.add_zero] at this
        exact this
      · exact k2 1 (by decide) (by decide)
    · refine Or.inr ⟨σ1, τ1, ?_, ?_, a3, kX.st (fun a q z1 z2 => a4 a q (by omega)), kM.st (fun a q z1 z2 => a5 a q (fun y => by have := z1 y; omega))⟩
      · unfold f_Table_readWheel
        rw [t1, a1, xbW_s, if_pos rfl]
      · unfold mLine
        rw [mc, a2, xbW_s, if_pos rfl, xbW_s, if_pos rfl]
  · obtain ⟨σ', τ', a1, a2, a3, a4, a5, a6⟩ := hL.hand.fail h9 (p := 4) (fun z => by omega)
    refine Or.inr ⟨σ', τ', ?_, ?_, a3, kX.fail a5, kM.bad a6⟩
    · unfold f_Table_readWheel f_Table_readName
      rw [lay28, t1, x_isWithin, if_neg (show ¬ (0 ≤ (T : Int) ∧ (T : Int) < 3) by omega), xbR_s, if_pos rfl, a1, xbW_s, xbW_s]
      rfl
    · unfold mLine f_M_readWheel
      rw [t2, xlet_s, if_pos (show (T : Int) = 3 by omega), a2, xbW_s, xbW_s]
      rfl
end
