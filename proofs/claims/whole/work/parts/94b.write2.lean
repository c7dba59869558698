/-! write: the tree -/
/-- the words that are told, as letters -/
def wrdL : List (List Nat) := [[3, 15, 9, 14], [15, 16, 5, 14], [23, 8, 5, 5, 12], [5, 14, 4], [1, 7, 1, 9, 14], [19, 15], [15, 18], [1, 14, 4], [14, 15, 20], [12, 9, 11, 5], [3, 15, 13, 5, 19], [19, 8, 1, 18, 5, 19], [16, 12, 1, 3, 5], [11, 14, 15, 20, 19]]
theorem m_wd0 {k : Int} {σ : xSt} : f_M_wordOf k σ = f_M_wordOf k z0 := by
  unfold f_M_wordOf f_M_spelt f_M_spelt_38 f_M_spelt_57 f_M_spelt_78
  rfl
theorem wd_all : (List.range 14).all (fun k => decide (f_M_wordOf (k : Int) z0 = some (pkN 27 (wrdL.getD k []) : Int))) = true := by decide +kernel
theorem m_wordOf {k : Nat} {σ : xSt} (h : k < 14) : f_M_wordOf (k : Int) σ = some (pkN 27 (wrdL.getD k []) : Int) := m_wd0.trans (of_decide_eq_true (List.all_eq_true.mp wd_all k (List.mem_range.mpr h)))
/-- how many brackets close behind a NODE: it has a THINGS around it -/
def Clo (σ : xSt) : Nat → Nat → Nat → Prop
  | 0, k, c => σ 19 k = -1 ∧ c = 0
  | a + 1, k, c => ∃ p : Nat, σ 19 k = (p : Int) ∧ (p : Int) < σ 16 0 ∧ 0 ≤ σ 18 p ∧ σ 18 p < σ 7 1 ∧ (σ 20 k = σ 10 (σ 18 p).toNat - 1 ∧ (∃ c2, c = c2 + 1 ∧ Clo σ a p c2) ∨ σ 20 k ≠ σ 10 (σ 18 p).toNat - 1 ∧ c = 0)
theorem Clo_le {σ : xSt} : ∀ (a k c : Nat), Clo σ a k c → c ≤ a := by
  intro a
  induction a with
  | zero => exact fun k c h => by rw [h.2]; exact Nat.le_refl _
  | succ a ih =>
    intro k c h
    obtain ⟨p, -, -, -, -, h⟩ := h
    rcases h with ⟨-, c2, rfl, h⟩ | ⟨-, rfl⟩
    · have := ih p c2 h
      omega
    · omega
/-- the WAY and the table as they were -/
def SmW (σ0 σ : xSt) : Prop := ∀ a q, 7 ≤ a → a ≤ 21 → σ a q = σ0 a q
theorem rep_succ {c : Nat} (l : List Nat) : l ++ List.replicate (c + 1) 41 = (l ++ [41]) ++ List.replicate c 41 := by
  rw [List.append_assoc]
  rfl
theorem x_close {σ0 : xSt} (h0 : Inv0 σ0) : ∀ (a k c u fu : Nat) (σ : xSt) (l : List Nat), Clo σ0 a k c → (k : Int) < σ0 16 0 → u + a ≤ 6 → a < fu → SmW σ0 σ → TX σ l → l.length + c ≤ 600 → ∃ σ', f_Way_putClosings_10 fu (l.length : Int) (k : Int) (u : Int) σ = some (((l ++ List.replicate c 41).length : Int), σ') ∧ TX σ' (l ++ List.replicate c 41) ∧ ∀ x q, x ≠ 110 → σ' x q = σ x q := by
  have h80 := h0.nodes
  have ht := h0.things
  intro a
  induction a with
  | zero =>
    intro k c u fu σ l hc hk hu hf hs h hl
    obtain ⟨fu, rfl⟩ : ∃ n2, fu = n2 + 1 := ⟨fu - 1, by omega⟩
    obtain ⟨h1, rfl⟩ := hc
    have e16 : σ 16 0 = σ0 16 0 := hs 16 0 (by decide) (by decide)
    have e : l ++ List.replicate 0 41 = l := List.append_nil l
    rw [e]
    refine ⟨σ, ?_, h, fun _ _ _ => rfl⟩
    rw [f_Way_putClosings_10.eq_2]
    by_cases h6 : (u : Int) < 6
    · rw [if_pos h6, x_parentOf (by omega), if_pos (by omega), xbR_s, Int.toNat_natCast, hs 19 k (by decide) (by decide), if_pos h1]
    · rw [if_neg h6]
  | succ a ih =>
    intro k c u fu σ l hc hk hu hf hs h hl
    obtain ⟨fu, rfl⟩ : ∃ n2, fu = n2 + 1 := ⟨fu - 1, by omega⟩
    obtain ⟨p, h1, h2, h3, h4, h5⟩ := hc
    have e16 : σ 16 0 = σ0 16 0 := hs 16 0 (by decide) (by decide)
    have e71 : σ 7 1 = σ0 7 1 := hs 7 1 (by decide) (by decide)
    have h6 : (u : Int) < 6 := by omega
    have b1 : 0 ≤ (k : Int) ∧ (k : Int) < σ 16 0 := by omega
    have b2 : 0 ≤ (p : Int) ∧ (p : Int) < σ 16 0 := by omega
    have b3 : 0 ≤ σ0 18 p ∧ σ0 18 p < σ 7 1 := by omega
    have n1 : ¬ (p : Int) = -1 := by omega
    have n80 : σ 16 0 ≤ 80 := by omega
    have n3 : σ 7 1 ≤ 3 := by omega
    have th := h0.th h3 h4
    have sd : w32 (σ0 10 (σ0 18 p).toNat - 1) = σ0 10 (σ0 18 p).toNat - 1 := w32_o (by omega) (by omega)
    have start : f_Way_putClosings_10 (fu + 1) (l.length : Int) (k : Int) (u : Int) σ = if σ0 20 k = σ0 10 (σ0 18 p).toNat - 1 then (xbW (f_Way_put (l.length : Int) 41 σ) fun r5 σ6 => xlet (w32 ((u : Int) + 1)) fun x7 => f_Way_putClosings_10 fu r5 (p : Int) x7 σ6) else some ((l.length : Int), σ) := by
      rw [f_Way_putClosings_10.eq_2, if_pos h6, x_parentOf n80, if_pos b1, xbR_s, Int.toNat_natCast, hs 19 k (by decide) (by decide), h1, if_neg n1, x_sideTo n80, if_pos b1, xbR_s, Int.toNat_natCast, hs 20 k (by decide) (by decide), x_whichAt n80, if_pos b2, xbR_s, Int.toNat_natCast, hs 18 p (by decide) (by decide), x_sidesOf n3, if_pos b3, xbR_s, hs 10 _ (by decide) (by decide), sd]
    rw [start]
    rcases h5 with ⟨q1, c2, rfl, q2⟩ | ⟨q1, rfl⟩
    · have n2 : u < 100000 := by omega
      obtain ⟨σ1, a1, a2, a3⟩ := x_putc (c := 41) h (by omega) (by decide)
      have hl1 : (l ++ [41]).length = l.length + 1 := by rw [List.length_append]; rfl
      obtain ⟨σ', t1, t2, t3⟩ := ih p c2 (u + 1) fu σ1 (l ++ [41]) q2 h2 (by omega) (by omega) (fun x q z1 z2 => by rw [a3 x q (by omega)]; exact hs x q z1 z2) a2 (by omega)
      rw [rep_succ]
      refine ⟨σ', ?_, t2, fun x q hx => by rw [t3 x q hx, a3 x q hx]⟩
      have a1 : f_Way_put (l.length : Int) 41 σ = some (((l ++ [41]).length : Int), σ1) := a1
      rw [if_pos q1, a1, xbW_s, w32_n1 n2, xlet_s, t1]
    · have e : l ++ List.replicate 0 41 = l := List.append_nil l
      rw [if_neg q1, e]
      exact ⟨σ, rfl, h, fun _ _ _ => rfl⟩
/-- letters of a NODE's NAME -/
def NdL (σ : xSt) (k : Nat) (ls : List Nat) : Prop := LtOk ls ∧ (σ 17 k = 0 ∧ σ 13 (σ 18 k).toNat = (pkN 32 ls : Int) ∧ σ 117 (3 + (σ 18 k).toNat) = (pkN 27 ls : Int) ∨ σ 17 k = 1 ∧ ls = [1, 7, 1, 9, 14] ∨ σ 17 k = 2 ∧ σ 8 (σ 18 k).toNat = (pkN 32 ls : Int) ∧ σ 117 (σ 18 k).toNat = (pkN 27 ls : Int))
theorem ndl_ex {σ : xSt} (h : Inv0 σ) {k : Nat} (hk : (k : Int) < σ 16 0) : ∃ ls, NdL σ k ls := by
  have hd := (h.nd (p := (k : Int)) (by omega) hk).2.2.2.2
  rw [Int.toNat_natCast] at hd
  rcases hd with ⟨q1, q2, q3⟩ | ⟨q1, -⟩ | ⟨q1, q2, q3⟩
  · obtain ⟨ls, -, l2, l3, l4, l5⟩ := (h.en q2 q3).2.2.2.2.2
    exact ⟨ls, ⟨l2, l3⟩, Or.inl ⟨q1, by rw [l4]; exact pk_nat ls, by rw [l5]; exact pk_nat ls⟩⟩
  · exact ⟨[1, 7, 1, 9, 14], ⟨by decide, by decide⟩, Or.inr (Or.inl ⟨q1, rfl⟩)⟩
  · obtain ⟨ls, -, l2, l3, l4, l5⟩ := (h.th q2 q3).2.2.2.2.2.2.2.2.2.1
    exact ⟨ls, ⟨l2, l3⟩, Or.inr (Or.inr ⟨q1, by rw [l4]; exact pk_nat ls, by rw [l5]; exact pk_nat ls⟩)⟩
def nmB (ls : List Nat) : List Nat := ls.map (fun c => c + 96)
theorem nmB_len {ls : List Nat} : (nmB ls).length = ls.length := List.length_map _
/-- a NODE's sign ahead -/
def sep (σ : xSt) (k : Nat) : List Nat := if k = 0 then [] else if σ 20 k = 0 then [40] else [58]
theorem sep_len {σ : xSt} {k : Nat} : (sep σ k).length ≤ 1 := by
  unfold sep
  split
  · exact Nat.zero_le _
  · split <;> exact Nat.le_refl _
/-- the class's NODE: its sign and NAME -/
theorem x_node {σ0 : xSt} (h0 : Inv0 σ0) {k fu : Nat} {ls l : List Nat} {σ : xSt} (hk : (k : Int) < σ0 16 0) (hn : NdL σ0 k ls) (hs : SmW σ0 σ) (h : TX σ l) (hz : k = 0 → l = []) (hl : l.length + (sep σ0 k).length + ls.length ≤ 600) :
    ∃ σ', f_Way_tellInto_5 (fu + 1) (l.length : Int) (k : Int) σ = f_Way_tellInto_118 (fun z0 z1 sz => f_Way_tellInto_5 fu z0 z1 sz) (((l ++ sep σ0 k ++ nmB ls).length : Nat) : Int) (k : Int) σ' ∧ TX σ' (l ++ sep σ0 k ++ nmB ls) ∧ ∀ x q, x ≠ 110 → σ' x q = σ x q := by
  have h80 := h0.nodes
  have ht := h0.things
  have hte := h0.ends
  have e16 : σ 16 0 = σ0 16 0 := hs 16 0 (by decide) (by decide)
  have hd := (h0.nd (p := (k : Int)) (by omega) hk).2.2.2.2
  rw [Int.toNat_natCast] at hd
  have b80 : 0 ≤ (k : Int) ∧ (k : Int) < 80 := by omega
  have b1 : (k : Int) < σ 16 0 := by omega
  -- the sign
  obtain ⟨σ1, a1, a2, a3⟩ : ∃ σ1, f_Way_tellInto_5 (fu + 1) (l.length : Int) (k : Int) σ = f_Way_tellInto_49 (fun z0 z1 sz => f_Way_tellInto_5 fu z0 z1 sz) (((l ++ sep σ0 k).length : Nat) : Int) (k : Int) σ1 ∧ TX σ1 (l ++ sep σ0 k) ∧ ∀ x q, x ≠ 110 → σ1 x q = σ x q := by
    by_cases k0 : k = 0
    · have e : sep σ0 k = [] := by unfold sep; rw [if_pos k0]
      rw [e, List.append_nil]
      refine ⟨σ, ?_, h, fun _ _ _ => rfl⟩
      rw [f_Way_tellInto_5.eq_2, if_pos b1, if_pos b80.2, if_neg (by omega)]
    · have kp : 0 < (k : Int) := by omega
      have e20 : σ 20 k = σ0 20 k := hs 20 k (by decide) (by decide)
      by_cases h20 : σ0 20 k = 0
      · have e : sep σ0 k = [40] := by unfold sep; rw [if_neg k0, if_pos h20]
        rw [e] at hl ⊢
        have e1 : ([40] : List Nat).length = 1 := rfl
        obtain ⟨σ1, p1, p2, p3⟩ := x_putc (c := 40) h (by omega) (by decide)
        refine ⟨σ1, ?_, p2, p3⟩
        have p1 : f_Way_put (l.length : Int) 40 σ = _ := p1
        rw [f_Way_tellInto_5.eq_2, if_pos b1, if_pos b80.2, if_pos kp, if_pos b80, Int.toNat_natCast, e20, if_pos h20]
        unfold f_Way_tellInto_45
        rw [p1, xbW_s]
      · have e : sep σ0 k = [58] := by unfold sep; rw [if_neg k0, if_neg h20]
        rw [e] at hl ⊢
        have e1 : ([58] : List Nat).length = 1 := rfl
        obtain ⟨σ1, p1, p2, p3⟩ := x_putc (c := 58) h (by omega) (by decide)
        refine ⟨σ1, ?_, p2, p3⟩
        have p1 : f_Way_put (l.length : Int) 58 σ = _ := p1
        rw [f_Way_tellInto_5.eq_2, if_pos b1, if_pos b80.2, if_pos kp, if_pos b80, Int.toNat_natCast, e20, if_neg h20]
        unfold f_Way_tellInto_45
        rw [p1, xbW_s]
  have hl2 : (l ++ sep σ0 k).length = l.length + (sep σ0 k).length := List.length_append
  obtain ⟨lo, hn⟩ := hn
  obtain ⟨σ2, p1, p2, p3⟩ := x_putName (σ := σ1) (ls := ls) a2 lo (by omega)
  refine ⟨σ2, ?_, p2, fun x q hx => by rw [p3 x q hx, a3 x q hx]⟩
  have s1 : ∀ a q, 7 ≤ a → a ≤ 21 → σ1 a q = σ0 a q := fun a q z1 z2 => by rw [a3 a q (by omega)]; exact hs a q z1 z2
  have e17 : σ1 17 k = σ0 17 k := s1 17 k (by decide) (by decide)
  have e18 : σ1 18 k = σ0 18 k := s1 18 k (by decide) (by decide)
  have e71 : σ1 7 1 = σ0 7 1 := s1 7 1 (by decide) (by decide)
  have e72 : σ1 7 2 = σ0 7 2 := s1 7 2 (by decide) (by decide)
  rw [a1]
  unfold f_Way_tellInto_49
  rw [if_pos b80, Int.toNat_natCast, e17]
  rcases hn with ⟨q1, q2, -⟩ | ⟨q1, rfl⟩ | ⟨q1, q2, -⟩
  · rcases hd with ⟨d1, d2, d3⟩ | ⟨d1, -⟩ | ⟨d1, -⟩
    · have nm : f_Table_nameOfEnd (σ0 18 k) σ1 = some (pkN 32 ls : Int) := by
        unfold f_Table_nameOfEnd
        rw [x_hasEnd (by omega), if_pos (by omega), xbR_s, if_neg (by decide), if_pos (by omega), s1 13 _ (by decide) (by decide), q2]
      rw [if_neg (by omega), if_pos b80, if_pos q1, if_pos b80, e18, nm, xbR_s, p1, xbW_s]
      rfl
    · omega
    · omega
  · have e : (1279278 : Int) = (pkN 32 [1, 7, 1, 9, 14] : Int) := rfl
    rw [if_pos q1, e, p1, xbW_s]
    rfl
  · rcases hd with ⟨d1, -⟩ | ⟨d1, -⟩ | ⟨d1, d2, d3⟩
    · omega
    · omega
    · have nm : f_Table_nameOfThing (σ0 18 k) σ1 = some (pkN 32 ls : Int) := by
        unfold f_Table_nameOfThing
        rw [x_hasThing (by omega), if_pos (by omega), xbR_s, if_neg (by decide), if_pos (by omega), s1 8 _ (by decide) (by decide), q2]
      rw [if_neg (by omega), if_pos b80, if_neg (by omega), if_pos b80, e18, nm, xbR_s, p1, xbW_s]
      rfl
