/-! write: the tree's text, both sides -/
def bodyT (t : Nat → List Nat) : Nat → List Nat
  | 0 => []
  | s + 1 => bodyT t s ++ ((if s = 0 then [40] else [58]) ++ t s)
theorem body_len {t : Nat → List Nat} (s : Nat) : (bodyT t (s + 1)).length = (bodyT t s).length + 1 + (t s).length := by
  show (bodyT t s ++ ((if s = 0 then [40] else [58]) ++ t s)).length = _
  rw [List.length_append, List.length_append]
  by_cases hs : s = 0
  · rw [if_pos hs]
    show (bodyT t s).length + (1 + (t s).length) = _
    omega
  · rw [if_neg hs]
    show (bodyT t s).length + (1 + (t s).length) = _
    omega
theorem body_mono {t : Nat → List Nat} {s N : Nat} (h : s ≤ N) : (bodyT t s).length ≤ (bodyT t N).length := by
  induction N with
  | zero => rw [show s = 0 by omega]; exact Nat.le_refl _
  | succ N ih =>
    by_cases hz : s = N + 1
    · rw [hz]; exact Nat.le_refl _
    · have := ih (by omega)
      rw [body_len]
      omega
/-- what the class tells of NODES k to e -/
def ClW (σ0 : xSt) (d k e : Nat) (txt : List Nat) : Prop := ∀ (a c fu : Nat) (σ : xSt) (l : List Nat), Clo σ0 a k c → a + d ≤ 6 → SmW σ0 σ → TX σ l → (k = 0 → l = []) → l.length + (sep σ0 k).length + txt.length + c ≤ 600 →
  ∃ σ', f_Way_tellInto_5 (fu + (e - k)) (l.length : Int) (k : Int) σ = f_Way_tellInto_5 fu (((l ++ sep σ0 k ++ txt ++ List.replicate c 41).length : Nat) : Int) (e : Int) σ' ∧ TX σ' (l ++ sep σ0 k ++ txt ++ List.replicate c 41) ∧ ∀ x q, x ≠ 110 → σ' x q = σ x q
def MdW (σ0 : xSt) (d k : Nat) (txt : List Nat) : Prop := ∀ (fu : Nat) (τ : xSt) (l : List Nat), d < fu → (∀ q, τ 113 q = σ0 113 q) → (∀ q, τ 117 q = σ0 117 q) → TM τ l → l.length + txt.length ≤ 1000 →
  ∃ τ', g_M_putNode fu (k : Int) τ = some τ' ∧ TM τ' (l ++ txt) ∧ ∀ a q, a ≠ 136 → a ≠ 137 → (a = 111 → q ≠ 66) → τ' a q = τ a q
theorem w_leaf {σ0 : xSt} (h0 : Inv0 σ0) {d k : Nat} (hk : (k : Int) < σ0 16 0) (hs : σ0 17 k ≠ 2) : ∃ txt : List Nat, 2 * txt.length + 3 ≤ 15 * (k + 1 - k) ∧ ClW σ0 d k (k + 1) txt ∧ MdW σ0 d k txt := by
  obtain ⟨ls, hn⟩ := ndl_ex h0 hk
  have h80 := h0.nodes
  have lo := hn.1
  have hlen := nmB_len (ls := ls)
  refine ⟨nmB ls, by have := lo.1; omega, fun a c fu σ l hc ha hsm h hz hl => ?_, fun fu τ l hd e113 e117 h hl => ?_⟩
  · obtain ⟨σ1, a1, a2, a3⟩ := x_node (fu := fu) h0 hk hn hsm h hz (by omega)
    have s1 : SmW σ0 σ1 := fun x q z1 z2 => by rw [a3 x q (by omega)]; exact hsm x q z1 z2
    have ca := Clo_le a k c hc
    have hl2 : (l ++ sep σ0 k ++ nmB ls).length = l.length + (sep σ0 k).length + ls.length := by rw [List.length_append, List.length_append, hlen]
    obtain ⟨σ2, b1, b2, b3⟩ := x_close h0 a k c 0 1000000 σ1 (l ++ sep σ0 k ++ nmB ls) hc hk (by omega) (by omega) s1 a2 (by omega)
    have b80 : 0 ≤ (k : Int) ∧ (k : Int) < 80 := by omega
    have n1 : k < 100000 := by omega
    have e17 : σ1 17 k = σ0 17 k := s1 17 k (by decide) (by decide)
    have b1 : f_Way_putClosings (((l ++ sep σ0 k ++ nmB ls).length : Nat) : Int) (k : Int) σ1 = _ := b1
    refine ⟨σ2, ?_, b2, fun x q hx => by rw [b3 x q hx, a3 x q hx]⟩
    rw [show fu + (k + 1 - k) = fu + 1 by omega, a1]
    unfold f_Way_tellInto_118
    rw [if_pos b80, Int.toNat_natCast, e17, if_neg hs, b1, xbW_s, w32_n1 n1, xlet_s]
  · obtain ⟨fu, rfl⟩ : ∃ n2, fu = n2 + 1 := ⟨fu - 1, by omega⟩
    have hd2 := h0.nd (p := (k : Int)) (by omega) hk
    rw [Int.toNat_natCast] at hd2
    have so : f_M_sortOf (k : Int) τ = some (σ0 17 k) := by rw [m_sortOf (by omega) (by omega), Int.toNat_natCast, e113, ← hd2.1]
    have wo : f_M_whichOf (k : Int) τ = some (σ0 18 k) := by rw [m_whichOf (by omega) (by omega), Int.toNat_natCast, e113, ← hd2.2.1]
    obtain ⟨τ1, b1, b2, b3⟩ := m_putName (τ := τ) (ls := ls) h lo (by omega)
    refine ⟨τ1, ?_, b2, b3⟩
    show f0_M_putNode (g_M_putNode fu) (k : Int) τ = _
    unfold f0_M_putNode
    rw [so, xbR_s]
    rcases hn.2 with ⟨q1, -, q3⟩ | ⟨q1, rfl⟩ | ⟨q1, -⟩
    · rcases hd2.2.2.2.2 with ⟨d1, d2, d3⟩ | ⟨d1, -⟩ | ⟨d1, -⟩
      · have he := h0.ends
        have ew : w32 (3 + σ0 18 k) = 3 + σ0 18 k := w32_o (by omega) (by omega)
        have b9 : 0 ≤ 3 + σ0 18 k ∧ 3 + σ0 18 k < 9 := by omega
        have et : (3 + σ0 18 k).toNat = 3 + (σ0 18 k).toNat := by omega
        have e113' : ∀ q, τ1 113 q = σ0 113 q := fun q => by rw [b3 113 q (by decide) (by decide) (fun z => absurd z (by decide))]; exact e113 q
        have so1 : f_M_sortOf (k : Int) τ1 = some (σ0 17 k) := by rw [m_sortOf (by omega) (by omega), Int.toNat_natCast, e113', ← hd2.1]
        rw [if_neg (by omega), xbR_s, if_pos q1, wo, xbR_s, ew]
        unfold f_M_putNode_46
        rw [if_pos b9, et, e117, q3, b1, xbR_s, so1, xbR_s, if_pos q1]
      · omega
      · omega
    · have ew : f_M_wordOf 4 τ = some (pkN 27 [1, 7, 1, 9, 14] : Int) := m_wordOf (k := 4) (by decide)
      rw [if_pos q1, ew, xbR_s, b1, xbR_s]
    · exact absurd q1 hs
theorem w_tree {σ0 : xSt} (h0 : Inv0 σ0) : ∀ (d k e m : Nat), Sub σ0 7 16 d k e m → (e : Int) ≤ σ0 16 0 → ∃ txt : List Nat, 2 * txt.length + 3 ≤ 15 * (e - k) ∧ ClW σ0 d k e txt ∧ MdW σ0 d k txt := by
  have h80 := h0.nodes
  intro d
  induction d with
  | zero =>
    intro k e m h he
    obtain ⟨h1, -, h2⟩ := h
    subst h1
    exact w_leaf h0 (by omega) (by rcases h2 with ⟨z, -⟩ | ⟨z, -⟩ <;> (intro q; have z : σ0 17 k = _ := z; omega))
  | succ d ih =>
    intro k e m h he
    have hlt := (Sub_lt (d + 1) k e m h).1
    rcases h with ⟨h1, -, h2⟩ | ⟨a1, a2, a3, f, hh, f0, fe, fs, fm⟩
    · subst h1
      exact w_leaf h0 (by omega) (by rcases h2 with ⟨z, -⟩ | ⟨z, -⟩ <;> (intro q; have z : σ0 17 k = _ := z; omega))
    · have hk : (k : Int) < σ0 16 0 := by omega
      obtain ⟨ls, hn⟩ := ndl_ex h0 hk
      have lo := hn.1
      have hlen := nmB_len (ls := ls)
      have a1 : σ0 17 k = 2 := a1
      have a2 : 0 ≤ σ0 18 k := a2
      have a3 : σ0 18 k < σ0 7 1 := a3
      have ht := h0.things
      have hth := h0.th a2 a3
      have hd2 := h0.nd (p := (k : Int)) (by omega) hk
      rw [Int.toNat_natCast] at hd2
      obtain ⟨N, hN⟩ : ∃ N : Nat, σ0 10 (σ0 18 k).toNat = (N : Int) := ⟨(σ0 10 (σ0 18 k).toNat).toNat, by omega⟩
      have N2 : 2 ≤ N ∧ N ≤ 6 := by omega
      have fe2 : f N = e := by
        have hN2 : σ0 (7 + 3) (σ0 (16 + 2) k).toNat = (N : Int) := hN
        rw [hN2] at fe
        exact fe
      have fs2 : ∀ s : Nat, s < N → Sub σ0 7 16 d (f s) (f (s + 1)) (hh s) ∧ σ0 19 (f s) = (k : Int) ∧ σ0 20 (f s) = (s : Int) ∧ σ0 21 (6 * k + s) = (f s : Int) := fun s hs => by
        obtain ⟨g1, g2, g3, g4, g5⟩ := fs s (by show (s : Int) < σ0 10 (σ0 18 k).toNat; omega)
        exact ⟨g1, g2, g3, g4⟩
      have hsin : ∀ s : Nat, s < N → k < f s ∧ f s < f (s + 1) ∧ f (s + 1) ≤ e := fun s hs => by
        have q := sons_in (f := f) (N := (N : Int)) (k := k) (e := e) (fun s hs => (Sub_lt d _ _ _ (fs2 s (by omega)).1).1) f0 (by rw [Int.toNat_natCast]; exact fe2) (s := s) (by omega)
        exact ⟨q.1, (Sub_lt d _ _ _ (fs2 s hs).1).1, q.2⟩
      -- the sons' texts
      obtain ⟨t, hT⟩ : ∃ t : Nat → List Nat, ∀ s, s < N → 2 * (t s).length + 3 ≤ 15 * (f (s + 1) - f s) ∧ ClW σ0 d (f s) (f (s + 1)) (t s) ∧ MdW σ0 d (f s) (t s) := by
        refine Classical.axiomOfChoice (r := fun s x => s < N → 2 * (x : List Nat).length + 3 ≤ 15 * (f (s + 1) - f s) ∧ ClW σ0 d (f s) (f (s + 1)) x ∧ MdW σ0 d (f s) x) (fun s => ?_)
        by_cases hs : s < N
        · have hi := hsin s hs
          obtain ⟨x, hx⟩ := ih (f s) (f (s + 1)) (hh s) (fs2 s hs).1 (by omega)
          exact ⟨x, fun _ => hx⟩
        · exact ⟨[], fun z => absurd z hs⟩
      have blen : ∀ s, s ≤ N → 2 * (bodyT t s).length + s ≤ 15 * (f s - f 0) ∧ f 0 ≤ f s := by
        intro s
        induction s with
        | zero =>
          intro _
          refine ⟨?_, Nat.le_refl _⟩
          show 2 * 0 + 0 ≤ _
          omega
        | succ s ihs =>
          intro hs
          obtain ⟨i1, i2⟩ := ihs (by omega)
          have q := (hT s (by omega)).1
          have hi := hsin s (by omega)
          rw [body_len]
          omega
      have bN := (blen N (Nat.le_refl N)).1
      rw [fe2, f0] at bN
      have tl : (nmB ls ++ bodyT t N ++ [41]).length = ls.length + (bodyT t N).length + 1 := by rw [List.length_append, List.length_append, hlen]; rfl
      refine ⟨nmB ls ++ bodyT t N ++ [41], by have := lo.1; omega, fun a c fu σ l hc ha hsm h hz hl => ?_, fun fu τ l hd e113 e117 h hl => ?_⟩
      · rw [tl] at hl
        obtain ⟨σ1, b1, b2, b3⟩ := x_node (fu := fu + (e - (k + 1))) h0 hk hn hsm h hz (by omega)
        have s1 : SmW σ0 σ1 := fun x q z1 z2 => by rw [b3 x q (by omega)]; exact hsm x q z1 z2
        have hl2 : (l ++ sep σ0 k ++ nmB ls).length = l.length + (sep σ0 k).length + ls.length := by rw [List.length_append, List.length_append, hlen]
        -- the sons, one behind the other
        have sons : ∀ s, s ≤ N → ∃ σ2, f_Way_tellInto_5 (fu + (e - f 0)) (((l ++ sep σ0 k ++ nmB ls).length : Nat) : Int) ((f 0 : Nat) : Int) σ1 = f_Way_tellInto_5 (fu + (e - f s)) (((l ++ sep σ0 k ++ nmB ls ++ bodyT t s ++ (if s = N then List.replicate (c + 1) 41 else [])).length : Nat) : Int) ((f s : Nat) : Int) σ2 ∧ TX σ2 (l ++ sep σ0 k ++ nmB ls ++ bodyT t s ++ (if s = N then List.replicate (c + 1) 41 else [])) ∧ ∀ x q, x ≠ 110 → σ2 x q = σ1 x q := by
          intro s
          induction s with
          | zero =>
            intro _
            have e0 : l ++ sep σ0 k ++ nmB ls ++ bodyT t 0 ++ (if 0 = N then List.replicate (c + 1) 41 else []) = l ++ sep σ0 k ++ nmB ls := by
              rw [if_neg (by omega)]
              show l ++ sep σ0 k ++ nmB ls ++ [] ++ [] = _
              rw [List.append_nil, List.append_nil]
            rw [e0]
            exact ⟨σ1, rfl, b2, fun _ _ _ => rfl⟩
          | succ s ihs =>
            intro hs
            obtain ⟨σ2, c1, c2, c3⟩ := ihs (by omega)
            rw [if_neg (by omega), List.append_nil] at c1 c2
            obtain ⟨q1, q2, q3⟩ := hT s (by omega)
            obtain ⟨g1, g2, g3, g4⟩ := fs2 s (by omega)
            have hi := hsin s (by omega)
            have s2 : SmW σ0 σ2 := fun x q z1 z2 => by rw [c3 x q (by omega)]; exact s1 x q z1 z2
            have fne : f s ≠ 0 := by omega
            have hsp : sep σ0 (f s) = if s = 0 then [40] else [58] := by
              unfold sep
              rw [if_neg fne, g3]
              by_cases h9 : s = 0
              · rw [if_pos (by omega), if_pos h9]
              · rw [if_neg (by omega), if_neg h9]
            have hsl : (sep σ0 (f s)).length = 1 := by
              rw [hsp]
              split <;> rfl
            have bm := body_mono (t := t) hs
            have bl := body_len (t := t) s
            have hLl : (l ++ sep σ0 k ++ nmB ls ++ bodyT t s).length = l.length + (sep σ0 k).length + ls.length + (bodyT t s).length := by rw [List.length_append, hl2]
            have clo : Clo σ0 (a + 1) (f s) (if s + 1 = N then c + 1 else 0) := by
              refine ⟨k, g2, hk, a2, a3, ?_⟩
              rw [g3, hN]
              by_cases hlast : s + 1 = N
              · rw [if_pos hlast]
                exact Or.inl ⟨by omega, c, rfl, hc⟩
              · rw [if_neg hlast]
                exact Or.inr ⟨by omega, rfl⟩
            obtain ⟨σ3, d1, d2, d3⟩ := q2 (a + 1) (if s + 1 = N then c + 1 else 0) (fu + (e - f (s + 1))) σ2 (l ++ sep σ0 k ++ nmB ls ++ bodyT t s) clo (by omega) s2 c2 (fun z => absurd z fne) (by
              rw [hLl, hsl]
              by_cases hlast : s + 1 = N
              · rw [if_pos hlast]
                omega
              · rw [if_neg hlast]
                omega)
            have eL : l ++ sep σ0 k ++ nmB ls ++ bodyT t s ++ sep σ0 (f s) ++ t s ++ List.replicate (if s + 1 = N then c + 1 else 0) 41 = l ++ sep σ0 k ++ nmB ls ++ bodyT t (s + 1) ++ (if s + 1 = N then List.replicate (c + 1) 41 else []) := by
              rw [hsp]
              show _ = l ++ sep σ0 k ++ nmB ls ++ (bodyT t s ++ ((if s = 0 then [40] else [58]) ++ t s)) ++ (if s + 1 = N then List.replicate (c + 1) 41 else [])
              by_cases hlast : s + 1 = N
              · rw [if_pos hlast, if_pos hlast]
                simp only [List.append_assoc]
              · rw [if_neg hlast, if_neg hlast]
                simp only [List.append_assoc]
                rfl
            rw [eL] at d1 d2
            refine ⟨σ3, ?_, d2, fun x q hx => by rw [d3 x q hx, c3 x q hx]⟩
            rw [c1, show fu + (e - f s) = fu + (e - f (s + 1)) + (f (s + 1) - f s) by omega, d1]
        obtain ⟨σ2, c1, c2, c3⟩ := sons N (Nat.le_refl N)
        rw [if_pos rfl, fe2] at c1
        rw [if_pos rfl] at c2
        have eF : l ++ sep σ0 k ++ nmB ls ++ bodyT t N ++ List.replicate (c + 1) 41 = l ++ sep σ0 k ++ (nmB ls ++ bodyT t N ++ [41]) ++ List.replicate c 41 := by
          rw [rep_succ]
          simp only [List.append_assoc]
        rw [eF] at c1 c2
        rw [Nat.sub_self, Nat.add_zero] at c1
        refine ⟨σ2, ?_, c2, fun x q hx => by rw [c3 x q hx, b3 x q hx]⟩
        have b80 : 0 ≤ (k : Int) ∧ (k : Int) < 80 := by omega
        have n1 : k < 100000 := by omega
        have e17 : σ1 17 k = σ0 17 k := s1 17 k (by decide) (by decide)
        rw [show fu + (e - k) = fu + (e - (k + 1)) + 1 by omega, b1]
        unfold f_Way_tellInto_118
        rw [if_pos b80, Int.toNat_natCast, e17, if_pos a1, w32_n1 n1, xlet_s]
        rw [f0] at c1
        exact c1
      · rw [tl] at hl
        obtain ⟨fu, rfl⟩ : ∃ n2, fu = n2 + 1 := ⟨fu - 1, by omega⟩
        have so : ∀ τ : xSt, (∀ q, τ 113 q = σ0 113 q) → f_M_sortOf (k : Int) τ = some (σ0 17 k) := fun τ e => by rw [m_sortOf (by omega) (by omega), Int.toNat_natCast, e, ← hd2.1]
        have wo : ∀ τ : xSt, (∀ q, τ 113 q = σ0 113 q) → f_M_whichOf (k : Int) τ = some (σ0 18 k) := fun τ e => by rw [m_whichOf (by omega) (by omega), Int.toNat_natCast, e, ← hd2.2.1]
        have sd : ∀ τ : xSt, (∀ q, τ 113 q = σ0 113 q) → f_M_sidesOf (σ0 18 k) τ = some (N : Int) := fun τ e => by rw [m_sidesOf a2 (by omega), e, ← hth.1, hN]
        have nx : ∀ (s : Nat) (τ : xSt), s < N → (∀ q, τ 113 q = σ0 113 q) → f_M_nextOf (k : Int) (s : Int) τ = some ((f s : Nat) : Int) := fun s τ hs e => by
          rw [m_nextOf (by omega) (by omega) (by omega) (by omega), Int.toNat_natCast, Int.toNat_natCast, e, ← hd2.2.2.1 s (by omega), (fs2 s hs).2.2.2]
        have q3 : σ0 117 (σ0 18 k).toNat = (pkN 27 ls : Int) := by
          rcases hn.2 with ⟨q1, -⟩ | ⟨q1, -⟩ | ⟨-, -, q3⟩
          · omega
          · omega
          · exact q3
        obtain ⟨τ1, b1, b2, b3⟩ := m_putName (τ := τ) (ls := ls) h lo (by omega)
        have hl3 : (l ++ nmB ls).length = l.length + ls.length := by rw [List.length_append, hlen]
        obtain ⟨τ2, c1, c2, c3⟩ := m_putc (c := 40) (l := l ++ nmB ls) b2 (by omega)
        have k1 : ∀ q, τ1 113 q = σ0 113 q := fun q => by rw [b3 113 q (by decide) (by decide) (fun z => absurd z (by decide))]; exact e113 q
        have k2 : ∀ q, τ2 113 q = σ0 113 q := fun q => by rw [c3 113 q (by decide) (fun z => absurd z (by decide))]; exact k1 q
        have k7 : ∀ q, τ2 117 q = σ0 117 q := fun q => by rw [c3 117 q (by decide) (fun z => absurd z (by decide)), b3 117 q (by decide) (by decide) (fun z => absurd z (by decide))]; exact e117 q
        -- the sons
        have sons : ∀ (j s n : Nat) (τ' : xSt), s + j = N → j < n → (∀ q, τ' 113 q = σ0 113 q) → (∀ q, τ' 117 q = σ0 117 q) → TM τ' (l ++ nmB ls ++ (if s = 0 then [40] else bodyT t s)) → ∃ τ3, f_M_putNode_67 (g_M_putNode fu) n (k : Int) (s : Int) τ' = some τ3 ∧ TM τ3 (l ++ nmB ls ++ bodyT t N ++ [41]) ∧ ∀ a q, a ≠ 136 → a ≠ 137 → (a = 111 → q ≠ 66) → τ3 a q = τ' a q := by
          intro j
          induction j with
          | zero =>
            intro s n τ' g1 g2 z1 z2 z3
            obtain ⟨n, rfl⟩ : ∃ n2, n = n2 + 1 := ⟨n - 1, by omega⟩
            obtain rfl : s = N := by omega
            rw [if_neg (by omega)] at z3
            have hbl : (l ++ nmB ls ++ bodyT t s).length = l.length + ls.length + (bodyT t s).length := by rw [List.length_append, hl3]
            obtain ⟨τ3, d1, d2, d3⟩ := m_putc (c := 41) z3 (by omega)
            refine ⟨τ3, ?_, d2, fun a q ha _ hb => d3 a q ha hb⟩
            have d1 : f_M_put 41 τ' = some τ3 := d1
            rw [f_M_putNode_67.eq_2, wo τ' z1, xbR_s, sd τ' z1, xbR_s, if_neg (by omega), d1, xbR_s]
          | succ j ihj =>
            intro s n τ' g1 g2 z1 z2 z3
            obtain ⟨n, rfl⟩ : ∃ n2, n = n2 + 1 := ⟨n - 1, by omega⟩
            have hs : s < N := by omega
            have n1 : s < 100000 := by omega
            have bm := body_mono (t := t) (show s + 1 ≤ N by omega)
            have bl := body_len (t := t) s
            obtain ⟨-, -, qM⟩ := hT s hs
            -- the sign ahead
            obtain ⟨τ4, p1, p2, p3⟩ : ∃ τ4, f_M_putNode_67 (g_M_putNode fu) (n + 1) (k : Int) (s : Int) τ' = f_M_putNode_93 (g_M_putNode fu) (fun z0 z1 sz => f_M_putNode_67 (g_M_putNode fu) n z0 z1 sz) (k : Int) (s : Int) τ4 ∧ TM τ4 (l ++ nmB ls ++ (bodyT t s ++ (if s = 0 then [40] else [58]))) ∧ ∀ a q, a ≠ 136 → (a = 111 → q ≠ 66) → τ4 a q = τ' a q := by
              by_cases h9 : s = 0
              · subst h9
                rw [if_pos rfl] at z3 ⊢
                refine ⟨τ', ?_, z3, fun _ _ _ _ => rfl⟩
                rw [f_M_putNode_67.eq_2, wo τ' z1, xbR_s, sd τ' z1, xbR_s, if_pos (by omega), if_neg (by decide)]
              · rw [if_neg h9] at z3 ⊢
                have hbl : (l ++ nmB ls ++ bodyT t s).length = l.length + ls.length + (bodyT t s).length := by rw [List.length_append, hl3]
                obtain ⟨τ4, d1, d2, d3⟩ := m_putc (c := 58) z3 (by omega)
                rw [List.append_assoc] at d2
                refine ⟨τ4, ?_, d2, d3⟩
                have d1 : f_M_put 58 τ' = some τ4 := d1
                rw [f_M_putNode_67.eq_2, wo τ' z1, xbR_s, sd τ' z1, xbR_s, if_pos (by omega), if_pos (by omega), d1, xbR_s]
            have r1 : ∀ q, τ4 113 q = σ0 113 q := fun q => by rw [p3 113 q (by decide) (fun z => absurd z (by decide))]; exact z1 q
            have r2 : ∀ q, τ4 117 q = σ0 117 q := fun q => by rw [p3 117 q (by decide) (fun z => absurd z (by decide))]; exact z2 q
            have hsg : (if s = 0 then [40] else [58] : List Nat).length = 1 := by split <;> rfl
            have hbl : (l ++ nmB ls ++ (bodyT t s ++ (if s = 0 then [40] else [58]))).length = l.length + ls.length + (bodyT t s).length + 1 := by rw [List.length_append, hl3, List.length_append, hsg]; omega
            obtain ⟨τ5, e1, e2, e3⟩ := qM fu τ4 _ (by omega) r1 r2 p2 (by rw [hbl]; omega)
            have eB : l ++ nmB ls ++ (bodyT t s ++ (if s = 0 then [40] else [58])) ++ t s = l ++ nmB ls ++ (if s + 1 = 0 then [40] else bodyT t (s + 1)) := by
              rw [if_neg (Nat.succ_ne_zero s)]
              show _ = l ++ nmB ls ++ (bodyT t s ++ ((if s = 0 then [40] else [58]) ++ t s))
              simp only [List.append_assoc]
            rw [eB] at e2
            obtain ⟨τ3, f1, f2, f3⟩ := ihj (s + 1) n τ5 (by omega) (by omega) (fun q => by rw [e3 113 q (by decide) (by decide) (fun z => absurd z (by decide))]; exact r1 q) (fun q => by rw [e3 117 q (by decide) (by decide) (fun z => absurd z (by decide))]; exact r2 q) e2
            refine ⟨τ3, ?_, f2, fun a q ha hb hc => by rw [f3 a q ha hb hc, e3 a q ha hb hc, p3 a q ha hc]⟩
            rw [p1]
            unfold f_M_putNode_93
            rw [nx s τ4 hs r1, xbR_s, e1, xbR_s, w32_n1 n1, xlet_s]
            exact f1
        obtain ⟨τ3, f1, f2, f3⟩ := sons N 0 1000000 τ2 (by omega) (by omega) k2 k7 (by rw [if_pos rfl]; exact c2)
        rw [c0n] at f1
        have eT : l ++ nmB ls ++ bodyT t N ++ [41] = l ++ (nmB ls ++ bodyT t N ++ [41]) := by simp only [List.append_assoc]
        rw [eT] at f2
        refine ⟨τ3, ?_, f2, fun a q ha hb hc => by rw [f3 a q ha hb hc, c3 a q ha hc, b3 a q ha hb hc]⟩
        show f0_M_putNode (g_M_putNode fu) (k : Int) τ = _
        have b9 : 0 ≤ σ0 18 k ∧ σ0 18 k < 9 := by omega
        have c1 : f_M_put 40 τ1 = some τ2 := c1
        unfold f0_M_putNode
        rw [so τ e113, xbR_s, if_neg (by omega), xbR_s, if_neg (by omega), wo τ e113, xbR_s]
        unfold f_M_putNode_46
        rw [if_pos b9, e117, q3, b1, xbR_s, so τ1 k1, xbR_s, if_neg (by omega), c1, xbR_s, f1]
