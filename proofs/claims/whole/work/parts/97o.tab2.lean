/-! TABLES read in lock-step: coins -/
theorem bit_or3 : ∀ cs : Fin 8, ∀ T : Fin 3, cs.val < 2 ^ T.val → xor32 (cs.val : Int) (xshl 1 (T.val : Int)) = ((cs.val + 2 ^ T.val : Nat) : Int) := by decide +kernel
theorem bit_new : ∀ cs : Fin 8, ∀ T t : Fin 3, cs.val < 2 ^ T.val → ((cs.val + 2 ^ T.val : Nat) : Int) / ((2 ^ T.val : Nat) : Int) % 2 = 1 ∧ (cs.val : Int) / ((2 ^ T.val : Nat) : Int) % 2 = 0 ∧ (t.val < T.val → ((cs.val + 2 ^ T.val : Nat) : Int) / ((2 ^ t.val : Nat) : Int) % 2 = (cs.val : Int) / ((2 ^ t.val : Nat) : Int) % 2) := by decide +kernel
theorem p2T {T : Nat} (h : T < 3) : 2 ^ T ≤ 4 ∧ 2 ^ (T + 1) = 2 ^ T + 2 ^ T := by
  rcases (show T = 0 ∨ T = 1 ∨ T = 2 by omega) with rfl | rfl | rfl <;> decide
theorem thing_fin {T E : Nat} {op op' : Int} {cs cs' : Nat} {σ τ σ' τ' : xSt} (hO : TbO T E op cs σ τ) (hT3 : T < 3) (x1 : σ' 27 1 = ((T + 1 : Nat) : Int)) (y1 : τ' 114 0 = ((T + 1 : Nat) : Int)) (x3 : σ' 27 3 = op') (y3 : τ' 114 2 = op') (hop : -1 ≤ op') (hop2 : op' < ((T + 1 : Nat) : Int)) (hopp : ∀ t : Nat, t < T → (op' = (t : Int) ↔ op = (t : Int))) (y40 : τ' 114 40 = (cs' : Int)) (hcs : cs' < 2 ^ (T + 1)) (hb : ∀ t : Nat, t < T → (cs' : Int) / (2 ^ t : Nat) % 2 = (cs : Int) / (2 ^ t : Nat) % 2)
    (fx : ∀ a q, 28 ≤ a → a ≤ 31 → q < T → σ' a q = σ a q) (fx2 : ∀ q, q < 6 * T → σ' 32 q = σ 32 q) (fx3 : ∀ a q, 33 ≤ a → a ≤ 35 → σ' a q = σ a q) (fx4 : σ' 27 2 = σ 27 2) (fm : ∀ q, q ≠ 0 → q ≠ 2 → q ≠ 40 → (q < 4 + 8 * T ∨ 12 + 8 * T ≤ q) → τ' 114 q = τ 114 q) (fm2 : ∀ q, q ≠ T → τ' 118 q = τ 118 q) (hnew : ThD σ' τ' op' cs' T) : TbO (T + 1) E op' cs' σ' τ' := by
  obtain ⟨t1, t2, t3, e1, e2, e3, o1, o2, o3, o4, c1, c2, hT, hE⟩ := hO
  refine ⟨x1, y1, by omega, fx4.trans e1, ?_, e3, x3, y3, hop, hop2, y40, hcs, fun t ht => ?_, fun e he => ?_⟩
  · rw [fm 1 (by decide) (by decide) (by decide) (by omega)]; exact e2
  · by_cases hz : t = T
    · rw [hz]; exact hnew
    · exact (hT t (by omega)).cg (fun a h1 h2 => fx a t h1 h2 (by omega)) (fun s hs => fx2 _ (by omega)) (fun j hj => fm _ (by omega) (by omega) (by omega) (by omega)) (fm2 t hz) (hb t (by omega)) (hopp t (by omega))
  · exact (hE e he).cg (fun a h1 h2 => fx3 a e h1 h2) (fm _ (by omega) (by omega) (by omega) (by omega)) (fm _ (by omega) (by omega) (by omega) (by omega)) (fm2 _ (by omega))
theorem x_addCoin {T : Nat} {σ : xSt} (h : σ 27 1 = (T : Int)) (hT : T < 3) (p w : Int) : f_Table_addCoin p w σ = some (upS (upS (upS (upS (upS (upS σ 29 T 1) 30 T 2) 31 T w) 32 (6 * T) p) 32 (6 * T + 1) (w32 (w - p))) 27 1 ((T + 1 : Nat) : Int)) := by
  have b : 0 ≤ (T : Int) ∧ (T : Int) < 3 := by omega
  have b1 : 0 ≤ ((6 * T : Nat) : Int) ∧ ((6 * T : Nat) : Int) < 18 := by omega
  have b2 : 0 ≤ ((6 * T + 1 : Nat) : Int) ∧ ((6 * T + 1 : Nat) : Int) < 18 := by omega
  have bT : T < 100000 := by omega
  have b6 : 6 * T < 100000 := by omega
  have e1 : w32 ((T : Int) * 6) = ((6 * T : Nat) : Int) := (w32_o (by omega) (by omega)).trans (by omega)
  unfold f_Table_addCoin
  rw [h, x_isWithin, if_pos b, xbR_s, if_neg (by decide), if_pos b, Int.toNat_natCast, xlet_s, upS_ne (by decide), h, if_pos b, Int.toNat_natCast, xlet_s, upS_ne (by decide), upS_ne (by decide), h, if_pos b, Int.toNat_natCast, xlet_s, upS_ne (by decide), upS_ne (by decide), upS_ne (by decide), h, e1, if_pos b1, Int.toNat_natCast, xlet_s, upS_ne (by decide), upS_ne (by decide), upS_ne (by decide), upS_ne (by decide), h, e1, w32_n1 b6, if_pos b2, Int.toNat_natCast, xlet_s, upS_ne (by decide), upS_ne (by decide), upS_ne (by decide), upS_ne (by decide), upS_ne (by decide), h, w32_n1 bT, xlet_s]
theorem m_coin41 {l1 : Int} {b : Nat} (hb : b + 8 ≤ 41) : ∀ (j fu i : Nat) (τ : xSt), i + j = 8 → j < fu → ∃ τ', f_M_readCoin_41 fu l1 (b : Int) (i : Int) τ = f_M_readCoin_41 (0 + 1) l1 (b : Int) ((8 : Nat) : Int) τ' ∧ (∀ k, i ≤ k → k < 8 → τ' 114 (b + k) = 0) ∧ (∀ q, (q < b + i ∨ b + 8 ≤ q) → τ' 114 q = τ 114 q) ∧ ∀ a q, a ≠ 114 → τ' a q = τ a q := by
  intro j
  induction j with
  | zero =>
    intro fu i τ h1 h2
    obtain ⟨fu, rfl⟩ : ∃ n2, fu = n2 + 1 := ⟨fu - 1, by omega⟩
    have hi : i = 8 := by omega
    refine ⟨τ, ?_, fun k a b => by omega, fun _ _ => rfl, fun _ _ _ => rfl⟩
    have n8 : ¬ ((8 : Nat) : Int) < 8 := by decide
    rw [hi, f_M_readCoin_41.eq_2, f_M_readCoin_41.eq_2, if_neg n8, if_neg n8]
  | succ j ih =>
    intro fu i τ h1 h2
    obtain ⟨fu, rfl⟩ : ∃ n2, fu = n2 + 1 := ⟨fu - 1, by omega⟩
    have b1 : (i : Int) < 8 := by omega
    have b3 : i < 100000 := by omega
    have b4 : 0 ≤ ((b + i : Nat) : Int) ∧ ((b + i : Nat) : Int) < 41 := by omega
    have e1 : w32 ((b : Int) + (i : Int)) = ((b + i : Nat) : Int) := w32_nn (by omega)
    obtain ⟨τ', k1, k2, k3, k4⟩ := ih fu (i + 1) (upS τ 114 (b + i) 0) (by omega) (by omega)
    refine ⟨τ', ?_, fun k hk hk2 => ?_, fun q hq => ?_, fun a q ha => by rw [k4 a q ha, upS_ne ha]⟩
    · rw [f_M_readCoin_41.eq_2, if_pos b1, e1, if_pos b4, Int.toNat_natCast, xlet_s, w32_n1 b3, xlet_s]
      exact k1
    · by_cases he : k = i
      · subst he
        rw [k3 _ (by omega), upS_eq]
      · exact k2 k (by omega) hk2
    · rw [k3 q (by omega), upS_nk (by omega)]
theorem xbW_n {α β : Type} {k : β → xSt → Option α} : xbW (none : Option (β × xSt)) k = none := Eq.trans rfl rfl
def mLine (f : xSt → Option (Int × xSt)) (τ : xSt) : Option (Int × xSt) := xbW (f τ) fun s0 σ => if s0 = 0 then (some (0, σ)) else (f_M_readSign 59 σ)
section
variable {σ0 τ0 : xSt} {d : Nat → Int} {n c : Nat}
theorem num_w {lim i : Nat} {σ τ : xSt} (h : LR d n lim c i σ τ) (h9 : σ 2 9 = 0) (lo hi : Int) :
    (σ 2 6 = 5 ∧ lo ≤ σ 2 7 ∧ σ 2 7 ≤ hi ∧ ∃ τ', f_Tokens_holdsNumber lo hi σ = some (1, σ) ∧ f_M_readNumber lo hi τ = some (1, τ') ∧ τ' 111 13 = σ 2 7 ∧ frH (upS τ 111 13 (σ 2 7)) τ' ∧ ∀ σw : xSt, (∀ a k, 2 ≤ a → a ≤ 5 → σw a k = σ a k) → ∃ σ', f_Tokens_step σw = some σ' ∧ LR d n lim c (i + 1) σ' τ' ∧ frS σw σ') ∨
    (∃ σ' τ', f_Tokens_holdsNumber lo hi σ = some (0, σ') ∧ f_M_readNumber lo hi τ = some (0, τ') ∧ Flt σ' τ' ∧ (∀ a k, (a = 2 → k ≠ 9 ∧ k ≠ 10) → σ' a k = σ a k) ∧ ∀ a k, (a = 111 → k ≠ 10 ∧ k ≠ 11) → τ' a k = τ a k) := by
  rcases num_lock h h9 lo hi with ⟨r1, r2, σ', τ', p1, p2, p3, p4, p5, p6, p7⟩ | ⟨σ', τ', p1, p2, p3, p4, p5, p6⟩
  · rcases h.hand.num with ⟨b1, b2, b3⟩ | ⟨b1, b2⟩
    · refine Or.inl ⟨b1, r1, r2, τ', p1, p3, p5, p7, fun σw hw => ?_⟩
      obtain ⟨σ2, τ2, c1, c2, c3, c4, -⟩ := ((h.m13 (σ 2 7)).cg hw (fun _ _ _ => rfl) (fun _ => rfl)).go1 (by rw [hw 2 6 (by decide) (by decide)]; omega) (by rw [hw 2 6 (by decide) (by decide)]; omega)
      have hr : lo ≤ σ 2 7 ∧ σ 2 7 ≤ hi := ⟨r1, r2⟩
      have e : τ2 = τ' := by
        unfold f_M_readNumber at p3
        rw [if_pos b2, m_isIn, ← b3, xbR_s, if_pos hr, if_neg (by decide), xlet_s, c2, xbR_s] at p3
        exact (Prod.mk.inj (Option.some.inj p3)).2
      rw [e] at c3
      exact ⟨σ2, c1, c3, c4⟩
    · exfalso
      obtain ⟨σ2, τ2, c1, -⟩ := h.hand.fail h9 (p := 1) (fun _ => rfl)
      unfold f_Tokens_holdsNumber at p1
      rw [if_neg b1, c1, xbW_s] at p1
      exact absurd (Prod.mk.inj (Option.some.inj p1)).1 (by decide)
  · exact Or.inr ⟨σ', τ', p1, p2, p3, p5, p6⟩
theorem coin_ThD {σ τ : xSt} {op : Int} {cs T : Nat} {p w : Int} (s30 : σ 30 T = 2) (s31 : σ 31 T = w) (s0 : σ 32 (6 * T) = p) (s1 : σ 32 (6 * T + 1) = w - p) (s29 : σ 29 T = 1) (m0 : τ 114 (4 + 8 * T) = 2) (m1 : τ 114 (4 + 8 * T + 1) = w) (m2 : τ 114 (4 + 8 * T + 2) = p) (m3 : τ 114 (4 + 8 * T + 3) = w - p) (hN : NmR (σ 28 T) (τ 118 T)) (hb : (cs : Int) / (2 ^ T : Nat) % 2 = 1) (hr : 0 ≤ p ∧ p ≤ w ∧ w ≤ 9) (ho : op = (T : Int) → w = 0) (ho2 : op ≠ (T : Int) → 1 ≤ w) : ThD σ τ op cs T := by
  have e5 : τ 114 (5 + 8 * T) = w := by rw [show 5 + 8 * T = 4 + 8 * T + 1 by omega]; exact m1
  have e6 : τ 114 (6 + 8 * T + 0) = p := by rw [show 6 + 8 * T + 0 = 4 + 8 * T + 2 by omega]; exact m2
  have e7 : τ 114 (6 + 8 * T + 1) = w - p := by rw [show 6 + 8 * T + 1 = 4 + 8 * T + 3 by omega]; exact m3
  unfold ThD
  rw [s30, s31, s29, m0, e5, hb]
  refine ⟨rfl, by decide, by decide, rfl, by omega, hr.2.2, fun s hs => ?_, Or.inr ⟨rfl, rfl⟩, rfl, hN, fun z => ?_, fun z => ?_⟩
  · rcases (show s = 0 ∨ s = 1 by omega) with rfl | rfl
    · rw [e6, Nat.add_zero, s0]
      exact ⟨rfl, by omega, by omega⟩
    · rw [e7, s1]
      exact ⟨rfl, by omega, by omega⟩
  · have := ho z
    rw [s0, s1]
    exact ⟨this, by omega, by omega, rfl⟩
  · refine ⟨ho2 z, ?_⟩
    show w = 0 + σ 32 (6 * T + 0) + σ 32 (6 * T + 1)
    rw [Nat.add_zero, s0, s1]
    omega
theorem coin_line {i T E : Nat} {op : Int} {cs : Nat} {σ τ : xSt} (hR : TbR σ0 τ0 d n c i T E op cs σ τ) (h3 : σ 2 6 = 3) (m7 : τ 111 7 = 2) :
    (∃ σ' τ' i' op' cs', f_Table_readCoin σ = some (1, σ') ∧ mLine f_M_readCoin τ = some (1, τ') ∧ TbR σ0 τ0 d n c i' (T + 1) E op' cs' σ' τ') ∨ (∃ σ' τ', f_Table_readCoin σ = some (0, σ') ∧ mLine f_M_readCoin τ = some (0, τ') ∧ TbB σ0 τ0 σ' τ') := by
  obtain ⟨hL, h9, h10, kX, kM, hO⟩ := hR
  obtain ⟨t1, t2, t3, e1, e2, e3, o1, o2, o3, o4, c1, c2, hT, hE⟩ := id hO
  by_cases hT3 : T < 3
  · have x28 := name_lock hL h9 hO h3 (a2 := 28) (p := T) (lim := 3) (slot := T) (Or.inl rfl) lay28 hT3 (by omega)
    have mc : f_M_readCoin τ = (xbW (xbR (f_M_go τ) fun σ4 => f_M_readNew (T : Int) σ4) fun r5 σ6 => if r5 = 0 then (some (0, σ6)) else (f_M_readCoin_41 1000000 (T : Int) ((4 + 8 * T : Nat) : Int) 0 σ6)) := by
      have ew : w32 (4 + w32 (8 * (T : Int))) = ((4 + 8 * T : Nat) : Int) := by
        rw [w32_8n (by omega)]
        exact (w32_o (by omega) (by omega)).trans (by omega)
      unfold f_M_readCoin
      rw [t2, xlet_s, if_neg (show ¬ (T : Int) = 3 by omega), ew]
      cases f_M_go τ with
      | none => rfl
      | some s =>
        rw [xbR_s, xbR_s]
        cases f_M_readNew (T : Int) s with
        | none => rw [xbW_n, xbW_n]
        | some r =>
          obtain ⟨r5, s6⟩ := r
          rw [xbW_s, xbW_s, xlet_s]
    rcases x28 with ⟨σ1, τ1, a1, a2, a3, a4, a5, a6⟩ | ⟨σ1, τ1, a1, a2, a3, a4, a5⟩
    · have cs8 : cs < 8 := by
        have := (p2T hT3).1
        omega
      have q2 := (p2T hT3).2
      have bo := bit_or3 ⟨cs, cs8⟩ ⟨T, hT3⟩ c2
      have bo : xor32 (cs : Int) (xshl 1 (T : Int)) = ((cs + 2 ^ T : Nat) : Int) := bo
      have bn : ∀ t : Nat, t < 3 → ((cs + 2 ^ T : Nat) : Int) / ((2 ^ T : Nat) : Int) % 2 = 1 ∧ (cs : Int) / ((2 ^ T : Nat) : Int) % 2 = 0 ∧ (t < T → ((cs + 2 ^ T : Nat) : Int) / ((2 ^ t : Nat) : Int) % 2 = (cs : Int) / ((2 ^ t : Nat) : Int) % 2) := fun t ht => bit_new ⟨cs, cs8⟩ ⟨T, hT3⟩ ⟨t, ht⟩ c2
      have hb1 := (bn 0 (by decide)).1
      have T100 : T < 100000 := by omega
      have cb : 0 ≤ ((4 + 8 * T : Nat) : Int) ∧ ((4 + 8 * T : Nat) : Int) < 41 := by omega
      have cb1 : 0 ≤ ((4 + 8 * T + 1 : Nat) : Int) ∧ ((4 + 8 * T + 1 : Nat) : Int) < 41 := by omega
      have cb2 : 0 ≤ ((4 + 8 * T + 2 : Nat) : Int) ∧ ((4 + 8 * T + 2 : Nat) : Int) < 41 := by omega
      have cb3 : 0 ≤ ((4 + 8 * T + 3 : Nat) : Int) ∧ ((4 + 8 * T + 3 : Nat) : Int) < 41 := by omega
      obtain ⟨τ2, k1, k2, k3, k4⟩ := m_coin41 (l1 := (T : Int)) (b := 4 + 8 * T) (by omega) 8 1000000 0 τ1 (by decide) (by decide)
      rw [c0n] at k1
      have g114 : ∀ q, τ1 114 q = τ 114 q := fun q => a6 114 q (fun y => absurd y (by decide)) (fun y => absurd y.1 (by decide))
      obtain ⟨τ3, hτ3⟩ : ∃ τ3, τ3 = upS (upS (upS τ2 114 (4 + 8 * T) 2) 114 40 ((cs + 2 ^ T : Nat) : Int)) 114 0 ((T + 1 : Nat) : Int) := ⟨_, rfl⟩
      have n3 : ∀ a q, a ≠ 114 → τ3 a q = τ1 a q := fun a q z => by rw [hτ3, upS_ne z, upS_ne z, upS_ne z, k4 a q z]
      have n3q : ∀ q, q ≠ 0 → q ≠ 40 → (q < 4 + 8 * T ∨ 12 + 8 * T ≤ q) → τ3 114 q = τ 114 q := fun q z1 z2 z3 => by rw [hτ3, upS_nk z1, upS_nk z2, upS_nk (by omega), k3 q (by omega), g114]
      have n30 : τ3 114 0 = ((T + 1 : Nat) : Int) := by rw [hτ3, upS_eq]
      have n340 : τ3 114 40 = ((cs + 2 ^ T : Nat) : Int) := by rw [hτ3, upS_nk (by decide), upS_eq]
      have n3b : τ3 114 (4 + 8 * T) = 2 := by rw [hτ3, upS_nk (by omega), upS_nk (by omega), upS_eq]
      have n3z : ∀ j, 1 ≤ j → j < 8 → τ3 114 (4 + 8 * T + j) = 0 := fun j j1 j2 => by rw [hτ3, upS_nk (by omega), upS_nk (by omega), upS_nk (by omega), k2 j (Nat.zero_le j) j2]
      have n32 : τ3 114 2 = op := by rw [n3q 2 (by decide) (by decide) (by omega), o2]
      have k40 : (upS τ2 114 (4 + 8 * T) 2) 114 40 = (cs : Int) := by rw [upS_nk (by omega), k3 40 (by omega), g114, c1]
      have k00 : (upS (upS τ2 114 (4 + 8 * T) 2) 114 40 ((cs + 2 ^ T : Nat) : Int)) 114 0 = (T : Int) := by rw [upS_nk (by decide), upS_nk (by omega), k3 0 (by omega), g114, t2]
      have body : f_M_readCoin_41 1000000 (T : Int) ((4 + 8 * T : Nat) : Int) 0 τ1 = (xbR (f_M_isWord 1 τ3) fun r13 => if r13 = 0 then (xbW (f_M_readOf 2 9 τ3) fun r14 σ15 => if r14 = 0 then (some (0, σ15)) else (if 0 ≤ w32 (((4 + 8 * T : Nat) : Int) + 1) ∧ w32 (((4 + 8 * T : Nat) : Int) + 1) < 41 then (
          xlet (upS σ15 114 (w32 (((4 + 8 * T : Nat) : Int) + 1)).toNat (σ15 111 13)) fun σ16 =>
          if 0 ≤ w32 (((4 + 8 * T : Nat) : Int) + 2) ∧ w32 (((4 + 8 * T : Nat) : Int) + 2) < 41 then (
          xlet (upS σ16 114 (w32 (((4 + 8 * T : Nat) : Int) + 2)).toNat (σ16 111 24)) fun σ17 =>
          if 0 ≤ w32 (((4 + 8 * T : Nat) : Int) + 3) ∧ w32 (((4 + 8 * T : Nat) : Int) + 3) < 41 then (
          xlet (upS σ17 114 (w32 (((4 + 8 * T : Nat) : Int) + 3)).toNat (w32 ((σ17 111 13) - (σ17 111 24)))) fun σ18 =>
          some (1, σ18)) else none) else none) else none))
          else (if τ3 114 2 = (-1) then (xlet (upS τ3 114 2 (T : Int)) fun σ19 => xbR (f_M_go σ19) fun σ20 => some (1, σ20)) else (xbW (f_M_bad 3 τ3) fun r21 σ22 => some (xnb r21, σ22)))) := by
        have n8 : ¬ ((8 : Nat) : Int) < 8 := by decide
        rw [k1, f_M_readCoin_41.eq_2, if_neg n8, if_pos cb, Int.toNat_natCast, xlet_s, k40, bo, xlet_s, k00, w32_n1 T100, xlet_s, ← hτ3]
      have hL3 : LR d n 500 c (i + 2) σ1 τ3 := a3.cg (fun _ _ _ _ => rfl) (fun q _ _ => n3 111 q (by decide)) (fun q => n3 112 q (by decide))
      have h91 : σ1 2 9 = 0 := by rw [a5 2 9 (fun _ => by decide) (fun y => absurd y.1 (by decide))]; exact h9
      have h103 : τ3 111 10 = 0 := by rw [n3 111 10 (by decide), a6 111 10 (fun _ => by decide) (fun y => absurd y.1 (by decide))]; exact h10
      have s1k : ∀ a q, a ≠ 2 → ¬ (a = 28 ∧ q = T) → σ1 a q = σ a q := fun a q z1 z2 => a5 a q (fun y => absurd y z1) z2
      have kX1 : KpX tbW σ0 σ1 := kX.st (fun a q z1 z2 => s1k a q (by omega) (fun y => z2 (by unfold tbW; omega)))
      have kM3 : KpM tbV τ0 τ3 := kM.st (fun a q z1 z2 => by
        rw [n3 a q (fun y => z2 (Or.inl y)), a6 a q (fun y => by have := z1 y; omega) (fun y => z2 (Or.inr (Or.inl y.1)))])
      have s271 : σ1 27 1 = (T : Int) := by rw [s1k 27 1 (by decide) (fun y => absurd y.1 (by decide))]; exact t1
      have s273 : σ1 27 3 = op := by rw [s1k 27 3 (by decide) (fun y => absurd y.1 (by decide))]; exact o1
      have cls : f_Table_readCoin σ = (xbR (f_Tokens_is 153 σ1) fun r3 => if r3 = 0 then (xbW (f_Tokens_holdsNumber 0 9 σ1) fun r4 σ5 => if r4 = 0 then (some (0, σ5)) else (xlet (σ5 2 7) fun x6 => xbR (f_Tokens_step σ5) fun σ7 => xbW (f_Tokens_holdsNumber (xmax 2 x6) 9 σ7) fun r8 σ9 => if r8 = 0 then (some (0, σ9)) else (xbR (f_Table_addCoin x6 (σ9 2 7) σ9) fun σ10 => xbR (f_Tokens_step σ10) fun σ11 => xbW (f_Tokens_pass 59 σ11) fun r12 σ13 => some (xnb r12, σ13))))
          else (if σ1 27 3 = (-1) then (xlet (upS σ1 27 3 (σ1 27 1)) fun σ14 => xbR (f_Tokens_step σ14) fun σ15 => xbR (f_Table_addCoin 0 0 σ15) fun σ16 => xbW (f_Tokens_pass 59 σ16) fun r17 σ18 => some (xnb r17, σ18)) else (xbW (f_Tokens_fail 3 σ1) fun r19 σ20 => some (xnb r19, σ20)))) := by
        unfold f_Table_readCoin
        rw [t1, a1, xbW_s, if_neg (by decide)]
      have mdl : mLine f_M_readCoin τ = (xbW (f_M_readCoin_41 1000000 (T : Int) ((4 + 8 * T : Nat) : Int) 0 τ1) fun s0 s => if s0 = 0 then (some (0, s)) else (f_M_readSign 59 s)) := by
        unfold mLine
        rw [mc, a2, xbW_s, if_neg (by decide)]
      rw [body] at mdl
      clear body mc
      obtain ⟨v, v0, v1, v2⟩ := hL3.hand.word (a := 153) (k := 1) (by decide)
      have v2' : f_M_isWord 1 τ3 = some v := v2
      rw [v1, xbR_s] at cls
      rw [v2', xbR_s] at mdl
      -- the new coin, at the end
      have finish : ∀ (σ4 τ5 : xSt) (i' : Nat) (op' p w : Int), LR d n 500 c i' σ4 τ5 → σ4 2 9 = 0 → τ5 111 10 = 0 → KpX tbW σ0 σ4 → KpM tbV τ0 τ5 → (∀ a q, a ≠ 2 → ¬ (a = 27 ∧ (q = 1 ∨ q = 3)) → ¬ (29 ≤ a ∧ a ≤ 31 ∧ q = T) → ¬ (a = 32 ∧ (q = 6 * T ∨ q = 6 * T + 1)) → σ4 a q = σ1 a q) → (∀ a q, (a = 114 → q ≠ 2 ∧ q ≠ 4 + 8 * T + 1 ∧ q ≠ 4 + 8 * T + 2 ∧ q ≠ 4 + 8 * T + 3) → a ≠ 111 → τ5 a q = τ3 a q) →
          σ4 27 1 = ((T + 1 : Nat) : Int) → σ4 27 3 = op' → τ5 114 2 = op' → σ4 29 T = 1 → σ4 30 T = 2 → σ4 31 T = w → σ4 32 (6 * T) = p → σ4 32 (6 * T + 1) = w - p → τ5 114 (4 + 8 * T + 1) = w → τ5 114 (4 + 8 * T + 2) = p → τ5 114 (4 + 8 * T + 3) = w - p → 0 ≤ p ∧ p ≤ w ∧ w ≤ 9 → (op' = (T : Int) ∧ w = 0 ∧ op = -1 ∨ op' = op ∧ 1 ≤ w) →
          (∃ σ' τ' : xSt, ∃ i'' : Nat, f_Tokens_pass 59 σ4 = some (1, σ') ∧ f_M_readSign 59 τ5 = some (1, τ') ∧ TbR σ0 τ0 d n c i'' (T + 1) E op' (cs + 2 ^ T) σ' τ') ∨ (∃ σ' τ', f_Tokens_pass 59 σ4 = some (0, σ') ∧ f_M_readSign 59 τ5 = some (0, τ') ∧ TbB σ0 τ0 σ' τ') := by
        intro σ4 τ5 i' op' p w z1 z2 z3 z4 z5 fX fM y1 y2 y3 y4 y5 y6 y7 y8 y9 y10 y11 y12 y13
        rcases pass_lock z1 z2 59 with ⟨σ', τ', w1, w2, w3, w4, w5⟩ | ⟨σ', τ', w1, w2, w3, w4, w5, w6⟩
        · have gX : ∀ a q, a ≠ 2 → σ' a q = σ4 a q := fun a q z => w4 a q (fun y => absurd y z)
          have gM : ∀ a q, a ≠ 111 → τ' a q = τ5 a q := fun a q z => w5 a q (fun y => absurd y z)
          refine Or.inl ⟨σ', τ', i' + 1, w1, w2, w3, ?_, ?_, z4.step w4, z5.go w5, ?_⟩
          · rw [w4 2 9 (fun _ => by decide)]; exact z2
          · rw [w5 111 10 (fun _ => by decide)]; exact z3
          · refine thing_fin hO hT3 ?_ ?_ ?_ ?_ ?_ ?_ (fun t ht => ?_) ?_ ?_ (fun t ht => (bn t (by omega)).2.2 ht) (fun a q x1 x2 x3 => ?_) (fun q hq => ?_) (fun a q x1 x2 => ?_) ?_ (fun q x1 x2 x3 x4 => ?_) (fun q hq => ?_) ?_
            · rw [gX 27 1 (by decide)]; exact y1
            · rw [gM 114 0 (by decide), fM 114 0 (fun _ => by omega) (by decide), n30]
            · rw [gX 27 3 (by decide)]; exact y2
            · rw [gM 114 2 (by decide)]; exact y3
            · omega
            · omega
            · rcases y13 with x | x
              · exact ⟨fun _ => by omega, fun _ => by omega⟩
              · rw [x.1]
            · rw [gM 114 40 (by decide), fM 114 40 (fun _ => by omega) (by decide), n340]
            · omega
            · rw [gX a q (by omega), fX a q (by omega) (by omega) (by omega) (by omega), s1k a q (by omega) (by omega)]
            · rw [gX 32 q (by decide), fX 32 q (by decide) (by omega) (by omega) (by omega), s1k 32 q (by decide) (by omega)]
            · rw [gX a q (by omega), fX a q (by omega) (by omega) (by omega) (by omega), s1k a q (by omega) (by omega)]
            · rw [gX 27 2 (by decide), fX 27 2 (by decide) (by omega) (by omega) (by omega), s1k 27 2 (by decide) (by omega)]
            · rw [gM 114 q (by decide), fM 114 q (fun _ => by omega) (by decide), n3q q x1 x3 x4]
            · rw [gM 118 q (by decide), fM 118 q (fun y => absurd y (by decide)) (by decide), n3 118 q (by decide), a6 118 q (fun y => absurd y (by decide)) (fun y => hq y.2)]
            · refine coin_ThD (p := p) (w := w) ?_ ?_ ?_ ?_ ?_ ?_ ?_ ?_ ?_ ?_ hb1 y12 (fun z => ?_) (fun z => ?_)
              · rw [gX 30 T (by decide)]; exact y5
              · rw [gX 31 T (by decide)]; exact y6
              · rw [gX 32 _ (by decide)]; exact y7
              · rw [gX 32 _ (by decide)]; exact y8
              · rw [gX 29 T (by decide)]; exact y4
              · rw [gM 114 _ (by decide), fM 114 _ (fun _ => by omega) (by decide)]; exact n3b
              · rw [gM 114 _ (by decide)]; exact y9
              · rw [gM 114 _ (by decide)]; exact y10
              · rw [gM 114 _ (by decide)]; exact y11
              · rw [gX 28 T (by decide), fX 28 T (by decide) (by omega) (by omega) (by omega), gM 118 T (by decide), fM 118 T (fun y => absurd y (by decide)) (by decide), n3 118 T (by decide)]
                exact a4
              · omega
              · omega
        · exact Or.inr ⟨σ', τ', w1, w2, w3, z4.fail w5, z5.bad w6⟩
      have hm7 : σ1 2 6 = 3 → τ3 111 7 = 2 → True := fun _ _ => trivial
      by_cases hv : v = 0
      · -- two numbers
        rw [if_pos hv] at cls mdl
        rcases num_w hL3 h91 0 9 with ⟨r0, r1, r2, τ4, p1, p2, p3, p4, p5⟩ | ⟨σ2, τ4, p1, p2, p3, p4, p5⟩
        · obtain ⟨σ2, w1, w2, w3⟩ := p5 σ1 (fun _ _ _ _ => rfl)
          rw [p1, xbW_s, if_neg (by decide), xlet_s, w1, xbR_s] at cls
          have h92 : σ2 2 9 = 0 := by rw [w3 2 9 (fun _ => by decide)]; exact h91
          obtain ⟨m, hm⟩ : ∃ m, m = xmax 2 (σ1 2 7) := ⟨_, rfl⟩
          have hmb : 2 ≤ m ∧ σ1 2 7 ≤ m := by
            rw [hm]
            unfold xmax
            by_cases z : 2 < σ1 2 7
            · rw [if_pos z]; omega
            · rw [if_neg z]; omega
          have mof : f_M_readOf 2 9 τ3 = f_M_readOf_27 9 (σ1 2 7) m τ4 := by
            unfold f_M_readOf
            rw [p2, xbW_s, if_neg (by decide), xlet_s, p3, hm]
            unfold xmax
            by_cases z : 2 < σ1 2 7
            · rw [if_pos z, if_pos z]
            · rw [if_neg z, if_neg z]
          rw [← hm] at cls
          rw [mof] at mdl
          rcases num_w w2 h92 m 9 with ⟨r3, r4, r5, τ5, q1, q2, q3, q4, q5⟩ | ⟨σ3, τ5, q1, q2, q3, q4, q5⟩
          · have s2k : ∀ a q, a ≠ 2 → σ2 a q = σ1 a q := fun a q z => w3 a q (fun y => absurd y z)
            have t27 : σ2 27 1 = (T : Int) := by rw [s2k 27 1 (by decide)]; exact s271
            have hw32 : w32 (σ2 2 7 - σ1 2 7) = σ2 2 7 - σ1 2 7 := w32_o (by omega) (by omega)
            have add := x_addCoin t27 hT3 (σ1 2 7) (σ2 2 7)
            rw [hw32] at add
            obtain ⟨σ3, hσ3⟩ : ∃ σ3, σ3 = upS (upS (upS (upS (upS (upS σ2 29 T 1) 30 T 2) 31 T (σ2 2 7)) 32 (6 * T) (σ1 2 7)) 32 (6 * T + 1) (σ2 2 7 - σ1 2 7)) 27 1 ((T + 1 : Nat) : Int) := ⟨_, rfl⟩
            rw [← hσ3] at add
            obtain ⟨σ4, u1, u2, u3⟩ := q5 σ3 (fun a k z1 z2 => by rw [hσ3, upS_ne (by omega), upS_ne (by omega), upS_ne (by omega), upS_ne (by omega), upS_ne (by omega), upS_ne (by omega)])
            rw [q1, xbW_s, if_neg (by decide), add, xbR_s, u1, xbR_s] at cls
            obtain ⟨τ6, hτ6⟩ : ∃ τ6, τ6 = upS (upS (upS (upS τ5 111 24 (σ1 2 7)) 114 (4 + 8 * T + 1) (σ2 2 7)) 114 (4 + 8 * T + 2) (σ1 2 7)) 114 (4 + 8 * T + 3) (σ2 2 7 - σ1 2 7) := ⟨_, rfl⟩
            have ew1 : w32 (((4 + 8 * T : Nat) : Int) + 1) = ((4 + 8 * T + 1 : Nat) : Int) := w32_n1 (by omega)
            have ew2 : w32 (((4 + 8 * T : Nat) : Int) + 2) = ((4 + 8 * T + 2 : Nat) : Int) := w32_n2 (by omega)
            have ew3 : w32 (((4 + 8 * T : Nat) : Int) + 3) = ((4 + 8 * T + 3 : Nat) : Int) := (w32_o (by omega) (by omega)).trans (by omega)
            rw [ew1, ew2, ew3] at mdl
            unfold f_M_readOf_27 at mdl
            rw [q2, xbW_s, if_neg (by decide), xlet_s, xbW_s, if_neg (by decide), if_pos cb1, Int.toNat_natCast, upS_nk (by decide), q3, xlet_s, if_pos cb2, Int.toNat_natCast, upS_ne (by decide), upS_eq, xlet_s, if_pos cb3, Int.toNat_natCast, upS_ne (by decide), upS_ne (by decide), upS_nk (by decide), q3, upS_ne (by decide), upS_ne (by decide), upS_eq, hw32, xlet_s, ← hτ6, xbW_s, if_neg (by decide)] at mdl
            clear ew1 ew2 ew3 hw32
            have s4k : ∀ a q, a ≠ 2 → σ4 a q = σ3 a q := fun a q z => u3 a q (fun y => absurd y z)
            have t6k : ∀ a q, a ≠ 111 → a ≠ 114 → τ6 a q = τ3 a q := fun a q z1 z2 => by
              rw [hτ6, upS_ne z2, upS_ne z2, upS_ne z2, upS_ne z1, q4 a q (fun y => absurd y z1), upS_ne z1, p4 a q (fun y => absurd y z1), upS_ne z1]
            have t5k : ∀ q, τ5 114 q = τ3 114 q := fun q => by
              rw [q4 114 q (fun y => absurd y (by decide)), upS_ne (by decide), p4 114 q (fun y => absurd y (by decide)), upS_ne (by decide)]
            have f := finish σ4 τ6 (i + 2 + 1 + 1) op (σ1 2 7) (σ2 2 7) (u2.cg (fun _ _ _ _ => rfl) (fun q z1 z2 => by rw [hτ6, upS_ne (by decide), upS_ne (by decide), upS_ne (by decide), upS_nk (by omega)]) (fun q => by rw [hτ6, upS_ne (by decide), upS_ne (by decide), upS_ne (by decide), upS_ne (by decide)]))
              (by rw [u3 2 9 (fun _ => by decide), hσ3, upS_ne (by decide), upS_ne (by decide), upS_ne (by decide), upS_ne (by decide), upS_ne (by decide), upS_ne (by decide)]; exact h92)
              (by rw [hτ6, upS_ne (by decide), upS_ne (by decide), upS_ne (by decide), upS_nk (by decide), q4 111 10 (fun _ => by decide), upS_nk (by decide), p4 111 10 (fun _ => by decide), upS_nk (by decide)]; exact h103)
              (((kX1.step w3).st (fun a q z1 z2 => by
                unfold tbW at z2
                rw [hσ3, upS_ne (by omega), upS_ne (by omega), upS_ne (by omega), upS_ne (by omega), upS_ne (by omega), upS_ne (by omega)])).step u3)
              (((kM3.num p4).num q4).st (fun a q z1 z2 => by
                rw [hτ6, upS_ne (fun y => z2 (Or.inl y)), upS_ne (fun y => z2 (Or.inl y)), upS_ne (fun y => z2 (Or.inl y)), upS_rd, if_neg (fun y => z2 (Or.inr (Or.inr y)))]))
              (fun a q z1 z2 z3 z4 => by
                rw [s4k a q z1, hσ3, upS_rd, if_neg (by omega), upS_rd, if_neg (by omega), upS_rd, if_neg (by omega), upS_rd, if_neg (by omega), upS_rd, if_neg (by omega), upS_rd, if_neg (by omega), s2k a q z1])
              (fun a q z1 z2 => by
                by_cases z : a = 114
                · obtain ⟨y1, y2, y3, y4⟩ := z1 z
                  rw [z, hτ6, upS_nk y4, upS_nk y3, upS_nk y2, upS_ne (by decide), t5k]
                · exact t6k a q z2 z)
              (by rw [s4k 27 1 (by decide), hσ3, upS_eq])
              (by rw [s4k 27 3 (by decide), hσ3, upS_nk (by decide), upS_ne (by decide), upS_ne (by decide), upS_ne (by decide), upS_ne (by decide), upS_ne (by decide), s2k 27 3 (by decide)]; exact s273)
              (by rw [hτ6, upS_nk (by omega), upS_nk (by omega), upS_nk (by omega), upS_ne (by decide), t5k]; exact n32)
              (by rw [s4k 29 T (by decide), hσ3, upS_ne (by decide), upS_ne (by decide), upS_ne (by decide), upS_ne (by decide), upS_ne (by decide), upS_eq])
              (by rw [s4k 30 T (by decide), hσ3, upS_ne (by decide), upS_ne (by decide), upS_ne (by decide), upS_ne (by decide), upS_eq])
              (by rw [s4k 31 T (by decide), hσ3, upS_ne (by decide), upS_ne (by decide), upS_ne (by decide), upS_eq])
              (by rw [s4k 32 _ (by decide), hσ3, upS_ne (by decide), upS_nk (by omega), upS_eq])
              (by rw [s4k 32 _ (by decide), hσ3, upS_ne (by decide), upS_eq])
              (by rw [hτ6, upS_nk (by omega), upS_nk (by omega), upS_eq])
              (by rw [hτ6, upS_nk (by omega), upS_eq])
              (by rw [hτ6, upS_eq])
              ⟨r1, by omega, r5⟩ (Or.inr ⟨rfl, by omega⟩)
            rcases f with ⟨σ', τ', i'', y1, y2, y3⟩ | ⟨σ', τ', y1, y2, y3⟩
            · rw [y1, xbW_s] at cls
              rw [y2] at mdl
              exact Or.inl ⟨σ', τ', i'', op, cs + 2 ^ T, cls, mdl, y3⟩
            · rw [y1, xbW_s] at cls
              rw [y2] at mdl
              exact Or.inr ⟨σ', τ', cls, mdl, y3⟩
          · rw [q1, xbW_s, if_pos rfl] at cls
            unfold f_M_readOf_27 at mdl
            rw [q2, xbW_s, if_pos rfl, xbW_s, if_pos rfl, xbW_s, if_pos rfl] at mdl
            exact Or.inr ⟨σ3, τ5, cls, mdl, q3, (kX1.step w3).fail q4, (kM3.num p4).bad q5⟩
        · rw [p1, xbW_s, if_pos rfl] at cls
          unfold f_M_readOf at mdl
          rw [p2, xbW_s, if_pos rfl, xbW_s, if_pos rfl, xbW_s, if_pos rfl] at mdl
          exact Or.inr ⟨σ2, τ4, cls, mdl, p3, kX1.fail p4, kM3.bad p5⟩
      · -- 'open'
        have hv1 : v = 1 := by omega
        have s63 : σ1 2 6 = 3 := wrd1 (a := 153) (k := 1) (by decide) (by rw [v1, hv1])
        have m73 : τ3 111 7 = 2 := wrdM1 (k := 1) (by decide) (by rw [v2, hv1])
        rw [if_neg hv, s273] at cls
        rw [if_neg hv, n32] at mdl
        by_cases ho : op = -1
        · rw [if_pos ho, xlet_s, s271] at cls
          rw [if_pos ho, xlet_s] at mdl
          have hLo : LR d n 500 c (i + 2) (upS σ1 27 3 (T : Int)) (upS τ3 114 2 (T : Int)) := hL3.cg (fun a k z1 z2 => upS_ne (by omega)) (fun q _ _ => upS_ne (by decide)) (fun q => upS_ne (by decide))
          have k26 : ∀ q, (upS σ1 27 3 (T : Int)) 2 q = σ1 2 q := fun q => upS_ne (by decide)
          obtain ⟨σ2, τ4, w1, w2, w3, w4, w5⟩ := hLo.go1 (by rw [k26]; omega) (by rw [k26]; omega)
          have s2k : ∀ a q, a ≠ 2 → ¬ (a = 27 ∧ q = 3) → σ2 a q = σ1 a q := fun a q z1 z2 => by rw [w4 a q (fun y => absurd y z1), upS_rd, if_neg z2]
          have t27 : σ2 27 1 = (T : Int) := by rw [s2k 27 1 (by decide) (fun y => absurd y.2 (by decide))]; exact s271
          have add := x_addCoin t27 hT3 0 0
          have hw32 : w32 ((0 : Int) - 0) = 0 := by decide +kernel
          rw [hw32] at add
          obtain ⟨σ3, hσ3⟩ : ∃ σ3, σ3 = upS (upS (upS (upS (upS (upS σ2 29 T 1) 30 T 2) 31 T 0) 32 (6 * T) 0) 32 (6 * T + 1) 0) 27 1 ((T + 1 : Nat) : Int) := ⟨_, rfl⟩
          rw [← hσ3] at add
          rw [w1, xbR_s, add, xbR_s] at cls
          rw [w2, xbR_s, xbW_s, if_neg (by decide)] at mdl
          clear hw32
          have t4k : ∀ a q, a ≠ 111 → ¬ (a = 114 ∧ q = 2) → τ4 a q = τ3 a q := fun a q z1 z2 => by rw [w5 a q (fun y => absurd y z1), upS_rd, if_neg z2]
          have f := finish σ3 τ4 (i + 2 + 1) (T : Int) 0 0 (w3.cg (fun a k z1 z2 => by rw [hσ3, upS_ne (by omega), upS_ne (by omega), upS_ne (by omega), upS_ne (by omega), upS_ne (by omega), upS_ne (by omega)]) (fun _ _ _ => rfl) (fun _ => rfl))
            (by rw [hσ3, upS_ne (by decide), upS_ne (by decide), upS_ne (by decide), upS_ne (by decide), upS_ne (by decide), upS_ne (by decide), w4 2 9 (fun _ => by decide), upS_ne (by decide)]; exact h91)
            (by rw [w5 111 10 (fun _ => by decide), upS_ne (by decide)]; exact h103)
            ((kX1.st (σ' := upS σ1 27 3 (T : Int)) (fun a q z1 z2 => upS_ne (by unfold tbW at z2; omega))).step w4 |>.st (fun a q z1 z2 => by
              unfold tbW at z2
              rw [hσ3, upS_ne (by omega), upS_ne (by omega), upS_ne (by omega), upS_ne (by omega), upS_ne (by omega), upS_ne (by omega)]))
            ((kM3.st (τ' := upS τ3 114 2 (T : Int)) (fun a q z1 z2 => upS_ne (fun y => z2 (Or.inl y)))).go w5)
            (fun a q z1 z2 z3 z4 => by
              rw [hσ3, upS_rd, if_neg (by omega), upS_rd, if_neg (by omega), upS_rd, if_neg (by omega), upS_rd, if_neg (by omega), upS_rd, if_neg (by omega), upS_rd, if_neg (by omega), s2k a q z1 (by omega)])
            (fun a q z1 z2 => t4k a q z2 (fun y => (z1 y.1).1 y.2))
            (by rw [hσ3, upS_eq])
            (by rw [hσ3, upS_nk (by decide), upS_ne (by decide), upS_ne (by decide), upS_ne (by decide), upS_ne (by decide), upS_ne (by decide), w4 27 3 (fun y => absurd y (by decide)), upS_eq])
            (by rw [w5 114 2 (fun y => absurd y (by decide)), upS_eq])
            (by rw [hσ3, upS_ne (by decide), upS_ne (by decide), upS_ne (by decide), upS_ne (by decide), upS_ne (by decide), upS_eq])
            (by rw [hσ3, upS_ne (by decide), upS_ne (by decide), upS_ne (by decide), upS_ne (by decide), upS_eq])
            (by rw [hσ3, upS_ne (by decide), upS_ne (by decide), upS_ne (by decide), upS_eq])
            (by rw [hσ3, upS_ne (by decide), upS_nk (by omega), upS_eq])
            (by rw [hσ3, upS_ne (by decide), upS_eq]; rfl)
            (by rw [t4k 114 _ (by decide) (by omega), n3z 1 (by decide) (by decide)])
            (by rw [t4k 114 _ (by decide) (by omega), n3z 2 (by decide) (by decide)])
            (by rw [t4k 114 _ (by decide) (by omega), n3z 3 (by decide) (by decide)]; rfl)
            ⟨by decide, by decide, by decide⟩ (Or.inl ⟨rfl, rfl, ho⟩)
          rcases f with ⟨σ', τ', i'', y1, y2, y3⟩ | ⟨σ', τ', y1, y2, y3⟩
          · rw [y1, xbW_s] at cls
            rw [y2] at mdl
            exact Or.inl ⟨σ', τ', i'', _, cs + 2 ^ T, cls, mdl, y3⟩
          · rw [y1, xbW_s] at cls
            rw [y2] at mdl
            exact Or.inr ⟨σ', τ', cls, mdl, y3⟩
        · obtain ⟨σ', τ', y1, y2, y3, y4, y5, y6⟩ := hL3.hand.fail h91 (p := 3) (fun z => by omega)
          rw [if_neg ho, y1, xbW_s] at cls
          rw [if_neg ho, y2, xbW_s, xbW_s] at mdl
          exact Or.inr ⟨σ', τ', cls, mdl, y3, kX1.fail y5, kM3.bad y6⟩
    · refine Or.inr ⟨σ1, τ1, ?_, ?_, a3, kX.st (fun a q z1 z2 => a4 a q (by omega)), kM.st (fun a q z1 z2 => a5 a q (fun y => by have := z1 y; omega))⟩
      · unfold f_Table_readCoin
        rw [t1, a1, xbW_s, if_pos rfl]
      · unfold mLine
        rw [mc, a2, xbW_s, if_pos rfl, xbW_s, if_pos rfl]
  · obtain ⟨σ', τ', a1, a2, a3, a4, a5, a6⟩ := hL.hand.fail h9 (p := 4) (fun z => by omega)
    refine Or.inr ⟨σ', τ', ?_, ?_, a3, kX.fail a5, kM.bad a6⟩
    · unfold f_Table_readCoin f_Table_readName
      rw [lay28, t1, x_isWithin, if_neg (show ¬ (0 ≤ (T : Int) ∧ (T : Int) < 3) by omega), xbR_s, if_pos rfl, a1, xbW_s, xbW_s]
      rfl
    · unfold mLine f_M_readCoin
      rw [t2, xlet_s, if_pos (show (T : Int) = 3 by omega), a2, xbW_s, xbW_s]
      rfl
end
