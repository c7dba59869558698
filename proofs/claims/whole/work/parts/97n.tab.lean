/-! TABLES read in lock-step: what stands between the tokens -/
def tbW (a : Nat) : Prop := 27 ≤ a ∧ a ≤ 35
def tbV (a q : Nat) : Prop := a = 114 ∨ a = 118 ∨ a = 111 ∧ q = 24
def ThD (σ τ : xSt) (op : Int) (cs t : Nat) : Prop :=
  σ 30 t = τ 114 (4 + 8 * t) ∧ 2 ≤ σ 30 t ∧ σ 30 t ≤ 6 ∧ σ 31 t = τ 114 (5 + 8 * t) ∧ 0 ≤ σ 31 t ∧ σ 31 t ≤ 9 ∧
  (∀ s : Nat, (s : Int) < σ 30 t → σ 32 (6 * t + s) = τ 114 (6 + 8 * t + s) ∧ 0 ≤ σ 32 (6 * t + s) ∧ σ 32 (6 * t + s) ≤ 9) ∧
  (σ 29 t = 0 ∨ σ 29 t = 1 ∧ σ 30 t = 2) ∧ σ 29 t = (cs : Int) / (2 ^ t : Nat) % 2 ∧ NmR (σ 28 t) (τ 118 t) ∧
  (op = (t : Int) → σ 31 t = 0 ∧ σ 32 (6 * t) = 0 ∧ σ 32 (6 * t + 1) = 0 ∧ σ 29 t = 1) ∧
  (op ≠ (t : Int) → 1 ≤ σ 31 t ∧ σ 31 t = psum (fun s => σ 32 (6 * t + s)) (σ 30 t).toNat)
def EnD (σ τ : xSt) (e : Nat) : Prop := σ 34 e = τ 114 (28 + 2 * e) ∧ σ 35 e = τ 114 (29 + 2 * e) ∧ 0 ≤ σ 34 e ∧ σ 34 e ≤ σ 35 e ∧ σ 35 e ≤ 20 ∧ NmR (σ 33 e) (τ 118 (3 + e))
def TbO (T E : Nat) (op : Int) (cs : Nat) (σ τ : xSt) : Prop := σ 27 1 = (T : Int) ∧ τ 114 0 = (T : Int) ∧ T ≤ 3 ∧ σ 27 2 = (E : Int) ∧ τ 114 1 = (E : Int) ∧ E ≤ 6 ∧ σ 27 3 = op ∧ τ 114 2 = op ∧ -1 ≤ op ∧ op < (T : Int) ∧ τ 114 40 = (cs : Int) ∧ cs < 2 ^ T ∧ (∀ t, t < T → ThD σ τ op cs t) ∧ ∀ e, e < E → EnD σ τ e
def TbR (σ0 τ0 : xSt) (d : Nat → Int) (n c i T E : Nat) (op : Int) (cs : Nat) (σ τ : xSt) : Prop := LR d n 500 c i σ τ ∧ σ 2 9 = 0 ∧ τ 111 10 = 0 ∧ KpX tbW σ0 σ ∧ KpM tbV τ0 τ ∧ TbO T E op cs σ τ
def TbB (σ0 τ0 : xSt) (σ τ : xSt) : Prop := Flt σ τ ∧ KpX tbW σ0 σ ∧ KpM tbV τ0 τ
theorem ThD.cg {σ τ σ' τ' : xSt} {op op' : Int} {cs cs' t : Nat} (h : ThD σ τ op cs t) (h1 : ∀ a, 28 ≤ a → a ≤ 31 → σ' a t = σ a t) (h2 : ∀ s, s < 6 → σ' 32 (6 * t + s) = σ 32 (6 * t + s)) (h3 : ∀ j, j < 8 → τ' 114 (4 + 8 * t + j) = τ 114 (4 + 8 * t + j)) (h4 : τ' 118 t = τ 118 t) (h5 : (cs' : Int) / (2 ^ t : Nat) % 2 = (cs : Int) / (2 ^ t : Nat) % 2) (h6 : op' = (t : Int) ↔ op = (t : Int)) : ThD σ' τ' op' cs' t := by
  obtain ⟨a1, a2, a3, a4, a5, a6, a7, a8, a9, a10, a11, a12⟩ := h
  have e5 : τ' 114 (5 + 8 * t) = τ 114 (5 + 8 * t) := by
    have := h3 1 (by decide)
    rw [show 4 + 8 * t + 1 = 5 + 8 * t by omega] at this
    exact this
  have e6 : ∀ s, s < 6 → τ' 114 (6 + 8 * t + s) = τ 114 (6 + 8 * t + s) := fun s hs => by
    have := h3 (2 + s) (by omega)
    rw [show 4 + 8 * t + (2 + s) = 6 + 8 * t + s by omega] at this
    exact this
  unfold ThD
  rw [h1 28 (by decide) (by decide), h1 29 (by decide) (by decide), h1 30 (by decide) (by decide), h1 31 (by decide) (by decide), e5, h4, h5]
  refine ⟨a1.trans (h3 0 (by decide)).symm, a2, a3, a4, a5, a6, fun s hs => ?_, a8, a9, a10, fun z => ?_, fun z => ?_⟩
  · rw [h2 s (by omega), e6 s (by omega)]
    exact a7 s hs
  · have q0 := h2 0 (by decide)
    have q1 := h2 1 (by decide)
    rw [Nat.add_zero] at q0
    rw [q0, q1]
    exact a11 (h6.mp z)
  · obtain ⟨b1, b2⟩ := a12 (fun y => z (h6.mpr y))
    refine ⟨b1, b2.trans (psum_cg _ (fun s hs => (h2 s (by omega)).symm))⟩
theorem EnD.cg {σ τ σ' τ' : xSt} {e : Nat} (h : EnD σ τ e) (h1 : ∀ a, 33 ≤ a → a ≤ 35 → σ' a e = σ a e) (h2 : τ' 114 (28 + 2 * e) = τ 114 (28 + 2 * e)) (h3 : τ' 114 (29 + 2 * e) = τ 114 (29 + 2 * e)) (h4 : τ' 118 (3 + e) = τ 118 (3 + e)) : EnD σ' τ' e := by
  unfold EnD
  rw [h1 33 (by decide) (by decide), h1 34 (by decide) (by decide), h1 35 (by decide) (by decide), h2, h3, h4]
  exact h
theorem lay28 : (((lay 28).2 : Nat) : Int) = 3 := rfl
theorem lay33 : (((lay 33).2 : Nat) : Int) = 6 := rfl
section
variable {d : Nat → Int} {n c : Nat}
/-- a new NAME, at its place on both sides -/
theorem name_lock {i T E : Nat} {op : Int} {cs : Nat} {σ τ : xSt} (hL : LR d n 500 c i σ τ) (h9 : σ 2 9 = 0) (hO : TbO T E op cs σ τ) (h3 : σ 2 6 = 3) {a2 p lim slot : Nat} (ha : a2 = 28 ∨ a2 = 33) (hlay : (((lay a2).2 : Nat) : Int) = (lim : Int)) (hp : p < lim) (hs : slot < 9) :
    (∃ σ' τ', f_Table_readName a2 (p : Int) σ = some (1, σ') ∧ (xbR (f_M_go τ) fun σ4 => f_M_readNew (slot : Int) σ4) = some (1, τ') ∧ LR d n 500 c (i + 2) σ' τ' ∧ NmR (σ' a2 p) (τ' 118 slot) ∧ (∀ a q, (a = 2 → q ≠ 5 ∧ q ≠ 6 ∧ q ≠ 7 ∧ q ≠ 8) → ¬ (a = a2 ∧ q = p) → σ' a q = σ a q) ∧ ∀ a q, (a = 111 → q < 3 ∨ 12 < q ∨ q = 10) → ¬ (a = 118 ∧ q = slot) → τ' a q = τ a q) ∨
    (∃ σ' τ', f_Table_readName a2 (p : Int) σ = some (0, σ') ∧ (xbR (f_M_go τ) fun σ4 => f_M_readNew (slot : Int) σ4) = some (0, τ') ∧ Flt σ' τ' ∧ (∀ a q, a ≠ 2 → σ' a q = σ a q) ∧ ∀ a q, (a = 111 → q < 3 ∨ 12 < q) → τ' a q = τ a q) := by
  obtain ⟨t1, t2, t3, e1, e2, e3, o1, o2, o3, o4, c1, c2, hT, hE⟩ := hO
  obtain ⟨s, t, g1, g2, hL1, g4, g5⟩ := hL.go1 (by omega) (by omega)
  have h91 : s 2 9 = 0 := by rw [g4 2 9 (fun _ => by decide)]; exact h9
  have gs : ∀ a q, a ≠ 2 → s a q = σ a q := fun a q z => g4 a q (fun y => absurd y z)
  have gt : ∀ a q, a ≠ 111 → t a q = τ a q := fun a q z => g5 a q (fun y => absurd y z)
  have hw : 0 ≤ (p : Int) ∧ (p : Int) < (lim : Int) := by omega
  have hs9 : 0 ≤ (slot : Int) ∧ (slot : Int) < 9 := by omega
  have xe : f_Table_readName a2 (p : Int) σ = (xbR (f_Tokens_isName s) fun r5 => if r5 = 0 then (xbW (f_Tokens_fail 1 s) fun r6 σ7 => some (xnb r6, σ7)) else (xbR (f_Table_thingNamed 27 (s 2 7) s) fun r8 => if r8 = (-1) then (xbR (f_Table_endNamed 27 (s 2 7) s) fun r9 => if r9 = (-1) then (xlet (upS s a2 p (s 2 7)) fun σ10 => xbR (f_Tokens_step σ10) fun σ11 => some (1, σ11)) else (f_Table_readName_56 a2 s)) else (f_Table_readName_56 a2 s))) := by
    unfold f_Table_readName
    rw [hlay, x_isWithin, if_pos hw, xbR_s, if_neg (by decide), g1, xbR_s, if_pos hw, Int.toNat_natCast]
  rw [xe, g2, xbR_s]
  clear xe
  unfold f_M_readNew
  rcases hL1.hand.name with ⟨n1, n2, n3⟩ | ⟨n1, n2⟩
  · have s4 := nam1 n1
    have m7 := namM1 n2
    have h10' : ¬ (1 : Int) = 0 := by decide
    obtain ⟨v, v1, v2, -⟩ := thing_lock (σ := s) (τ := t) (a0 := 27) (R := 118) (on := 0) (N := T) (by rw [gs 27 1 (by decide)]; exact t1) t3 (by omega) (fun x hx => by
      rw [gs 28 x (by decide), gt 118 _ (by decide), Nat.zero_add]
      exact (hT x hx).2.2.2.2.2.2.2.2.2.1) n3 T 1000000 1000000 0 (by omega) (by omega) (by omega)
    obtain ⟨w, w1, w2, -⟩ := end_lock (σ := s) (τ := t) (a0 := 27) (R := 118) (on := 3) (N := E) (by rw [gs 27 2 (by decide)]; exact e1) e3 (by omega) (fun x hx => by
      rw [gs 33 x (by decide), gt 118 _ (by decide)]
      exact (hE x hx).2.2.2.2.2) n3 E 1000000 1000000 0 (by omega) (by omega) (by omega)
    rw [c0n] at v1 v2 w1 w2
    have v1 : f_Table_thingNamed 27 (s 2 7) s = some v := v1
    have w1 : f_Table_endNamed 27 (s 2 7) s = some w := w1
    have v2 : f_M_findIn 118 0 (t 114 0) (t 111 12) t = some v := by
      rw [gt 114 0 (by decide), t2]
      exact v2
    have w2 : f_M_findIn 118 3 (t 114 1) (t 111 12) t = some w := by
      rw [gt 114 1 (by decide), e2]
      exact w2
    rw [n1, xbR_s, n2, xbR_s, if_neg h10', if_neg h10', v1, xbR_s, v2, xbR_s, w1, xbR_s, w2, xbR_s]
    by_cases hvw : v = -1 ∧ w = -1
    · rw [if_pos hvw.1, if_pos hvw.2, if_pos hvw.1, if_pos hvw.2, if_pos hs9, Int.toNat_natCast, xlet_s, xlet_s]
      have hLc : LR d n 500 c (i + 1) (upS s a2 p (s 2 7)) (upS t 118 slot (t 111 12)) := hL1.cg (fun a k z1 z2 => upS_ne (by omega)) (fun q z1 z2 => upS_ne (by decide)) (fun q => upS_ne (by decide))
      have k6 : ∀ q, (upS s a2 p (s 2 7)) 2 q = s 2 q := fun q => upS_ne (by omega)
      obtain ⟨σ', τ', y1, y2, y3, y4, y5⟩ := hLc.go1 (by rw [k6]; omega) (by rw [k6]; omega)
      refine Or.inl ⟨σ', τ', by rw [y1, xbR_s], by rw [y2, xbR_s], y3, ?_, fun a q z1 z2 => ?_, fun a q z1 z2 => ?_⟩
      · rw [y4 a2 p (fun z => by omega), upS_eq, y5 118 slot (fun z => absurd z (by decide)), upS_eq]
        exact n3
      · rw [y4 a q z1, upS_rd, if_neg z2, g4 a q z1]
      · rw [y5 a q (fun y => by have := z1 y; omega), upS_rd, if_neg z2, g5 a q (fun y => by have := z1 y; omega)]
    · obtain ⟨σ', τ', a1, a2', a3, a4, a5, a6⟩ := hL1.hand.fail h91 (p := 3) (fun z => by omega)
      have b1 : f_Table_readName_56 a2 s = some (0, σ') := by
        unfold f_Table_readName_56
        rw [a1, xbW_s]
        rfl
      have b2 : f_M_readNew_57 t = some (0, τ') := by
        unfold f_M_readNew_57
        rw [a2', xbW_s]
        rfl
      refine Or.inr ⟨σ', τ', ?_, ?_, a3, fun a q z => ?_, fun a q z => ?_⟩
      · by_cases z : v = -1
        · rw [if_pos z, if_neg (fun y => hvw ⟨z, y⟩), b1]
        · rw [if_neg z, b1]
      · by_cases z : v = -1
        · rw [if_pos z, if_neg (fun y => hvw ⟨z, y⟩), b2]
        · rw [if_neg z, b2]
      · rw [a5 a q (fun y => absurd y z), gs a q z]
      · rw [a6 a q (fun y => by have := z y; omega), g5 a q (fun y => by have := z y; omega)]
  · obtain ⟨σ', τ', a1, a2', a3, a4, a5, a6⟩ := hL1.hand.fail h91 (p := 1) (fun _ => rfl)
    refine Or.inr ⟨σ', τ', ?_, ?_, a3, fun a q z => ?_, fun a q z => ?_⟩
    · rw [n1, xbR_s, if_pos rfl, a1, xbW_s]; rfl
    · rw [n2, xbR_s, if_pos rfl, a2', xbW_s]; rfl
    · rw [a5 a q (fun y => absurd y z), gs a q z]
    · rw [a6 a q (fun y => by have := z y; omega), g5 a q (fun y => by have := z y; omega)]
end
