/-! TABLES read in lock-step: coins -/
theorem bit_or3 : ∀ cs : Fin 8, ∀ T : Fin 3, cs.val < 2 ^ T.val → xor32 (cs.val : Int) (xshl 1 (T.val : Int)) = ((cs.val + 2 ^ T.val : Nat) : Int) := by decide +kernel
theorem bit_new : ∀ cs : Fin 8, ∀ T t : Fin 3, cs.val < 2 ^ T.val → ((cs.val + 2 ^ T.val : Nat) : Int) / ((2 ^ T.val : Nat) : Int) % 2 = 1 ∧ (cs.val : Int) / ((2 ^ T.val : Nat) : Int) % 2 = 0 ∧ (t.val < T.val → ((cs.val + 2 ^ T.val : Nat) : Int) / ((2 ^ t.val : Nat) : Int) % 2 = (cs.val : Int) / ((2 ^ t.val : Nat) : Int) % 2) := by decide +kernel
theorem p2T {T : Nat} (h : T < 3) : 2 ^ T ≤ 4 ∧ 2 ^ (T + 1) = 2 ^ T + 2 ^ T := by
  rcases (show T = 0 ∨ T = 1 ∨ T = 2 by omega) with rfl | rfl | rfl <;> decide
theorem thing_fin {T E : Nat} {op op' : Int} {cs cs' : Nat} {σ τ σ' τ' : xSt} (hO : TbO T E op cs σ τ) (hT3 : T < 3) (x1 : σ' 27 1 = ((T + 1 : Nat) : Int)) (y1 : τ' 114 0 = ((T + 1 : Nat) : Int)) (x3 : σ' 27 3 = op') (y3 : τ' 114 2 = op') (hop : -1 ≤ op') (hop2 : op' < ((T + 1 : Nat) : Int)) (hopp : ∀ t : Nat, t < T → (op' = (t : Int) ↔ op = (t : Int))) (y40 : τ' 114 40 = (cs' : Int)) (hcs : cs' < 2 ^ (T + 1)) (hb : ∀ t : Nat, t < T → (cs' : Int) / (2 ^ t : Nat) % 2 = (cs : Int) / (2 ^ t : Nat) % 2)
    (fx : ∀ a q, 28 ≤ a → a ≤ 31 → q < T → σ' a q = σ a q) (fx2 : ∀ q, q < 6 * T → σ' 32 q = σ 32 q) (fx3 : ∀ a q, 33 ≤ a → a ≤ 35 → σ' a q = σ a q) (fx4 : σ' 27 2 = σ 27 2) (fm : ∀ q, q ≠ 0 → q ≠ 2 → q ≠ 40 → (q < 4 + 8 * T ∨ 12 + 8 * T ≤ q) → τ' 114 q = τ 114 q) (fm2 : ∀ q, q ≠ T → τ' 118 q = τ 118 q) (hnew : ThD σ' τ' op' cs' T) : TbO (T + 1) E op' cs' σ' τ' := by
  obtain ⟨t1, t2, t3, e1, e2, e3, o1, o2, o3, o4, c1, c2, hT, hE⟩ := hO
  refine ⟨x1, y1, by omega, fx4.trans e1, ?_, e3, x3, y3, hop, hop2, y40, hcs, fun t ht => ?_, fun e he => ?_⟩
  · rw [fm 1 (by decide) (by decide) (by decide) (by omega)]; exact e2
  · by_cases hz : t = T
    · rw [hz]; exact hnew
    · exact (hT t (by omega)).cg (fun a h1 h2 => fx a t h1 h2 (by omega)) (fun s hs => fx2 _ (by omega)) (fun j hj => fm _ (by omega) (by omega) (by omega) (by omega)) (fm2 t hz) (hb t (by omega)) (hopp t (by omega))
  · exact (hE e he).cg (fun a h1 h2 => fx3 a e h1 h2) (fm _ (by omega) (by omega) (by omega) (by omega)) (fm _ (by omega) (by omega) (by omega) (by omega)) (fm2 _ (by omega))
theorem x_addCoin {T : Nat} {σ : xSt} (h : σ 27 1 = (T : Int)) (hT : T < 3) (p w : Int) : f_Table_addCoin p w σ = some (upS (upS (upS (upS (upS (upS σ 29 T 1) 30 T 2) 31 T w) 32 (6 * T) p) 32 (6 * T + 1) (w32 (w - p))) 27 1 ((T + 1 : Nat) : Int)) := by
  have b : 0 ≤ (T : Int) ∧ (T : Int) < 3 := by omega
  have b1 : 0 ≤ ((6 * T : Nat) : Int) ∧ ((6 * T : Nat) : Int) < 18 := by omega
  have b2 : 0 ≤ ((6 * T + 1 : Nat) : Int) ∧ ((6 * T + 1 : Nat) : Int) < 18 := by omega
  have bT : T < 100000 := by omega
  have b6 : 6 * T < 100000 := by omega
  have e1 : w32 ((T : Int) * 6) = ((6 * T : Nat) : Int) := (w32_o (by omega) (by omega)).trans (by omega)
  unfold f_Table_addCoin
  rw [h, x_isWithin, if_pos b, xbR_s, if_neg (by decide), if_pos b, Int.toNat_natCast, xlet_s, upS_ne (by decide), h, if_pos b, Int.toNat_natCast, xlet_s, upS_ne (by decide), upS_ne (by decide), h, if_pos b, Int.toNat_natCast, xlet_s, upS_ne (by decide), upS_ne (by decide), upS_ne (by decide), h, e1, if_pos b1, Int.toNat_natCast, xlet_s, upS_ne (by decide), upS_ne (by decide), upS_ne (by decide), upS_ne (by decide), h, e1, w32_n1 b6, if_pos b2, Int.toNat_natCast, xlet_s, upS_ne (by decide), upS_ne (by decide), upS_ne (by decide), upS_ne (by decide), upS_ne (by decide), h, w32_n1 bT, xlet_s]
theorem m_coin41 {l1 : Int} {b : Nat} (hb : b + 8 ≤ 41) : ∀ (j fu i : Nat) (τ : xSt), i + j = 8 → j < fu → ∃ τ', f_M_readCoin_41 fu l1 (b : Int) (i : Int) τ = f_M_readCoin_41 (0 + 1) l1 (b : Int) ((8 : Nat) : Int) τ' ∧ (∀ k, i ≤ k → k < 8 → τ' 114 (b + k) = 0) ∧ (∀ q, (q < b + i ∨ b + 8 ≤ q) → τ' 114 q = τ 114 q) ∧ ∀ a q, a ≠ 114 → τ' a q = τ a q := by
  intro j
  induction j with
  | zero =>
    intro fu i τ h1 h2
    obtain ⟨fu, rfl⟩ : ∃ n2, fu = n2 + 1 := ⟨fu - 1, by omega⟩
    have hi : i = 8 := by omega
    refine ⟨τ, ?_, fun k a b => by omega, fun _ _ => rfl, fun _ _ _ => rfl⟩
    have n8 : ¬ ((8 : Nat) : Int) < 8 := by decide
    rw [hi, f_M_readCoin_41.eq_2, f_M_readCoin_41.eq_2, if_neg n8, if_neg n8]
  | succ j ih =>
    intro fu i τ h1 h2
    obtain ⟨fu, rfl⟩ : ∃ n2, fu = n2 + 1 := ⟨fu - 1, by omega⟩
    have b1 : (i : Int) < 8 := by omega
    have b3 : i < 100000 := by omega
    have b4 : 0 ≤ ((b + i : Nat) : Int) ∧ ((b + i : Nat) : Int) < 41 := by omega
    have e1 : w32 ((b : Int) + (i : Int)) = ((b + i : Nat) : Int) := w32_nn (by omega)
    obtain ⟨τ', k1, k2, k3, k4⟩ := ih fu (i + 1) (upS τ 114 (b + i) 0) (by omega) (by omega)
    refine ⟨τ', ?_, fun k hk hk2 => ?_, fun q hq => ?_, fun a q ha => by rw [k4 a q ha, upS_ne ha]⟩
    · rw [f_M_readCoin_41.eq_2, if_pos b1, e1, if_pos b4, Int.toNat_natCast, xlet_s, w32_n1 b3, xlet_s]
      exact k1
    · by_cases he : k = i
      · subst he
        rw [k3 _ (by omega), upS_eq]
      · exact k2 k (by omega) hk2
    · rw [k3 q (by omega), upS_nk (by omega)]
theorem xbW_n {α β : Type} {k : β → xSt → Option α} : xbW (none : Option (β × xSt)) k = none := Eq.trans rfl rfl
def mLine (f : xSt → Option (Int × xSt)) (τ : xSt) : Option (Int × xSt) := xbW (f τ) fun s0 σ => if s0 = 0 then (some (0, σ)) else (f_M_readSign 59 σ)
section
variable {σ0 τ0 : xSt} {d : Nat → Int} {n c : Nat}
theorem num_w {lim i : Nat} {σ τ : xSt} (h : LR d n lim c i σ τ) (h9 : σ 2 9 = 0) (lo hi : Int) :
    (σ 2 6 = 5 ∧ lo ≤ σ 2 7 ∧ σ 2 7 ≤ hi ∧ ∃ τ', f_Tokens_holdsNumber lo hi σ = some (1, σ) ∧ f_M_readNumber lo hi τ = some (1, τ') ∧ τ' 111 13 = σ 2 7 ∧ frH (upS τ 111 13 (σ 2 7)) τ' ∧ ∀ σw : xSt, (∀ a k, 2 ≤ a → a ≤ 5 → σw a k = σ a k) → ∃ σ', f_Tokens_step σw = some σ' ∧ LR d n lim c (i + 1) σ' τ' ∧ frS σw σ') ∨
    (∃ σ' τ', f_Tokens_holdsNumber lo hi σ = some (0, σ') ∧ f_M_readNumber lo hi τ = some (0, τ') ∧ Flt σ' τ' ∧ (∀ a k, (a = 2 → k ≠ 9 ∧ k ≠ 10) → σ' a k = σ a k) ∧ ∀ a k, (a = 111 → k ≠ 10 ∧ k ≠ 11) → τ' a k = τ a k) := by
  rcases num_lock h h9 lo hi with ⟨r1, r2, σ', τ', p1, p2, p3, p4, p5, p6, p7⟩ | ⟨σ', τ', p1, p2, p3, p4, p5, p6⟩
  · rcases h.hand.num with ⟨b1, b2, b3⟩ | ⟨b1, b2⟩
    · refine Or.inl ⟨b1, r1, r2, τ', p1, p3, p5, p7, fun σw hw => ?_⟩
      obtain ⟨σ2, τ2, c1, c2, c3, c4, -⟩ := ((h.m13 (σ 2 7)).cg hw (fun _ _ _ => rfl) (fun _ => rfl)).go1 (by rw [hw 2 6 (by decide) (by decide)]; omega) (by rw [hw 2 6 (by decide) (by decide)]; omega)
      have hr : lo ≤ σ 2 7 ∧ σ 2 7 ≤ hi := ⟨r1, r2⟩
      have e : τ2 = τ' := by
        unfold f_M_readNumber at p3
        rw [if_pos b2, m_isIn, ← b3, xbR_s, if_pos hr, if_neg (by decide), xlet_s, c2, xbR_s] at p3
        exact (Prod.mk.inj (Option.some.inj p3)).2
      rw [e] at c3
      exact ⟨σ2, c1, c3, c4⟩
    · exfalso
      obtain ⟨σ2, τ2, c1, -⟩ := h.hand.fail h9 (p := 1) (fun _ => rfl)
      unfold f_Tokens_holdsNumber at p1
      rw [if_neg b1, c1, xbW_s] at p1
      exact absurd (Prod.mk.inj (Option.some.inj p1)).1 (by decide)
  · exact Or.inr ⟨σ', τ', p1, p2, p3, p5, p6⟩
theorem coin_line {i T E : Nat} {op : Int} {cs : Nat} {σ τ : xSt} (hR : TbR σ0 τ0 d n c i T E op cs σ τ) (h3 : σ 2 6 = 3) (m7 : τ 111 7 = 2) :
    (∃ σ' τ' i' op' cs', f_Table_readCoin σ = some (1, σ') ∧ mLine f_M_readCoin τ = some (1, τ') ∧ TbR σ0 τ0 d n c i' (T + 1) E op' cs' σ' τ') ∨ (∃ σ' τ', f_Table_readCoin σ = some (0, σ') ∧ mLine f_M_readCoin τ = some (0, τ') ∧ TbB σ0 τ0 σ' τ') := by
  obtain ⟨hL, h9, h10, kX, kM, hO⟩ := hR
  obtain ⟨t1, t2, t3, e1, e2, e3, o1, o2, o3, o4, c1, c2, hT, hE⟩ := id hO
  by_cases hT3 : T < 3
  · have x28 := name_lock hL h9 hO h3 (a2 := 28) (p := T) (lim := 3) (slot := T) (Or.inl rfl) lay28 hT3 (by omega)
    have mc : f_M_readCoin τ = (xbW (xbR (f_M_go τ) fun σ4 => f_M_readNew (T : Int) σ4) fun r5 σ6 => if r5 = 0 then (some (0, σ6)) else (f_M_readCoin_41 1000000 (T : Int) ((4 + 8 * T : Nat) : Int) 0 σ6)) := by
      have ew : w32 (4 + w32 (8 * (T : Int))) = ((4 + 8 * T : Nat) : Int) := by
        rw [w32_8n (by omega)]
        exact (w32_o (by omega) (by omega)).trans (by omega)
      unfold f_M_readCoin
      rw [t2, xlet_s, if_neg (show ¬ (T : Int) = 3 by omega), ew]
      cases f_M_go τ with
      | none => rfl
      | some s =>
        rw [xbR_s, xbR_s]
        cases f_M_readNew (T : Int) s with
        | none => rw [xbW_n, xbW_n]
        | some r =>
          obtain ⟨r5, s6⟩ := r
          rw [xbW_s, xbW_s, xlet_s]
    rcases x28 with ⟨σ1, τ1, a1, a2, a3, a4, a5, a6⟩ | ⟨σ1, τ1, a1, a2, a3, a4, a5⟩
    · sorry
    · refine Or.inr ⟨σ1, τ1, ?_, ?_, a3, kX.st (fun a q z1 z2 => a4 a q (by omega)), kM.st (fun a q z1 z2 => a5 a q (fun y => by have := z1 y; omega))⟩
      · unfold f_Table_readCoin
        rw [t1, a1, xbW_s, if_pos rfl]
      · unfold mLine
        rw [mc, a2, xbW_s, if_pos rfl, xbW_s, if_pos rfl]
  · obtain ⟨σ', τ', a1, a2, a3, a4, a5, a6⟩ := hL.hand.fail h9 (p := 4) (fun z => by omega)
    refine Or.inr ⟨σ', τ', ?_, ?_, a3, kX.fail a5, kM.bad a6⟩
    · unfold f_Table_readCoin f_Table_readName
      rw [lay28, t1, x_isWithin, if_neg (show ¬ (0 ≤ (T : Int) ∧ (T : Int) < 3) by omega), xbR_s, if_pos rfl, a1, xbW_s, xbW_s]
      rfl
    · unfold mLine f_M_readCoin
      rw [t2, xlet_s, if_pos (show (T : Int) = 3 by omega), a2, xbW_s, xbW_s]
      rfl
end
