/-! PARSERS: both sides begin; what they keep -/
def KpX (w : Nat → Prop) (σ0 σ : xSt) : Prop := ∀ a q, (a < 2 ∨ 5 < a) → ¬ w a → σ a q = σ0 a q
def KpM (v : Nat → Nat → Prop) (τ0 τ : xSt) : Prop := ∀ a q, (a = 111 → q < 3 ∨ 13 < q) → ¬ v a q → τ a q = τ0 a q
theorem KpX.rf {w : Nat → Prop} {σ : xSt} : KpX w σ σ := fun _ _ _ _ => rfl
theorem KpM.rf {v : Nat → Nat → Prop} {τ : xSt} : KpM v τ τ := fun _ _ _ _ => rfl
theorem KpX.st {w : Nat → Prop} {σ0 σ σ' : xSt} (h : KpX w σ0 σ) (f : ∀ a q, (a < 2 ∨ 5 < a) → ¬ w a → σ' a q = σ a q) : KpX w σ0 σ' := fun a q z1 z2 => (f a q z1 z2).trans (h a q z1 z2)
theorem KpM.st {v : Nat → Nat → Prop} {τ0 τ τ' : xSt} (h : KpM v τ0 τ) (f : ∀ a q, (a = 111 → q < 3 ∨ 13 < q) → ¬ v a q → τ' a q = τ a q) : KpM v τ0 τ' := fun a q z1 z2 => (f a q z1 z2).trans (h a q z1 z2)
theorem KpX.step {w : Nat → Prop} {σ0 σ σ' : xSt} (h : KpX w σ0 σ) (f : frS σ σ') : KpX w σ0 σ' := h.st (fun a q z _ => f a q (fun y => by omega))
theorem KpX.fail {w : Nat → Prop} {σ0 σ σ' : xSt} (h : KpX w σ0 σ) (f : ∀ a k, (a = 2 → k ≠ 9 ∧ k ≠ 10) → σ' a k = σ a k) : KpX w σ0 σ' := h.st (fun a q z _ => f a q (fun y => by omega))
theorem KpM.go {v : Nat → Nat → Prop} {τ0 τ τ' : xSt} (h : KpM v τ0 τ) (f : frH τ τ') : KpM v τ0 τ' := h.st (fun a q z _ => f a q (fun y => by
  have := z y
  omega))
theorem KpM.bad {v : Nat → Nat → Prop} {τ0 τ τ' : xSt} (h : KpM v τ0 τ) (f : ∀ a k, (a = 111 → k ≠ 10 ∧ k ≠ 11) → τ' a k = τ a k) : KpM v τ0 τ' := h.st (fun a q z _ => f a q (fun y => by
  have := z y
  omega))
theorem KpM.num {v : Nat → Nat → Prop} {τ0 τ τ' : xSt} {x : Int} (h : KpM v τ0 τ) (f : frH (upS τ 111 13 x) τ') : KpM v τ0 τ' := h.st (fun a q z _ => (f a q (fun y => by
  have := z y
  omega)).trans (by
  rw [upS_rd, if_neg (fun y => by
    have := z y.1
    omega)]))
theorem LR.cg {d : Nat → Int} {n lim c i : Nat} {σ τ σ' τ' : xSt} (h : LR d n lim c i σ τ) (f : ∀ a k, 2 ≤ a → a ≤ 5 → σ' a k = σ a k) (g : ∀ q, 3 ≤ q → q ≤ 12 → τ' 111 q = τ 111 q) (g2 : ∀ q, τ' 112 q = τ 112 q) : LR d n lim c i σ' τ' := by
  obtain ⟨h1, ⟨c1, c2, c3, c4⟩, h3, h4, ⟨t1, t2, t3⟩, h6, m1, m2, m3, m4, m5, m6⟩ := h
  refine ⟨h1.cg (f 2 4 (by decide) (by decide)) (fun a k z => f a k (by omega) (by omega)), ⟨?_, ?_, ?_, ?_⟩, h3, h4, ⟨t1, ?_, fun k hk => ?_⟩, ?_, ?_, ?_, ?_, fun z => ?_, fun z => ?_, fun z => ?_⟩
  · rw [f 2 5 (by decide) (by decide)]; exact c1
  · rw [f 2 6 (by decide) (by decide), f 3 i (by decide) (by decide)]; exact c2
  · rw [f 2 7 (by decide) (by decide), f 4 i (by decide) (by decide)]; exact c3
  · rw [f 2 8 (by decide) (by decide), f 5 i (by decide) (by decide)]; exact c4
  · rw [g 3 (by decide) (by decide)]; exact t2
  · rw [g2 k]; exact t3 k hk
  · rw [g 4 (by decide) (by decide)]; exact h6
  · rw [g 5 (by decide) (by decide)]; exact m1
  · rw [g 6 (by decide) (by decide)]; exact m2
  · rw [g 7 (by decide) (by decide)]; exact m3
  · rw [g 12 (by decide) (by decide)]; exact m4 z
  · rw [g 8 (by decide) (by decide)]; exact m5 z
  · rw [g 9 (by decide) (by decide)]; exact m6 z
theorem m_begin2 {σ s : xSt} (h : Inv0 σ) (hs : ∀ a k, 111 ≤ a → (a = 111 → k ≠ 0) → s a k = σ a k) {n : Nat} (hn : σ 111 2 = (n : Int)) (lim : Nat) : ∃ τ', f_M_begin (lim : Int) s = some τ' ∧ TapM (σ 112) n τ' ∧ τ' 111 4 = (lim : Int) ∧ MTok (σ 112) n lim τ' 0 ∧ τ' 111 10 = 0 ∧ τ' 111 2 = 0 ∧ ∀ a k, (a = 111 → k < 2 ∨ 12 < k) → τ' a k = gLay (σ 111 22) (upS s 111 0 0) a k := by
  obtain ⟨t1, t2, t3, t4⟩ := h.1
  have n640 : n ≤ 640 := by omega
  obtain ⟨L, hL⟩ : ∃ L, L = gLay (σ 111 22) (upS s 111 0 0) := ⟨_, rfl⟩
  have hl : f_M_lay (upS s 111 0 0) = some L := by
    rw [hL]
    exact gLay_f (by rw [upS_nk (by decide)]; exact hs 111 22 (by decide) (fun _ => by decide))
  have e2 : L 111 2 = (n : Int) := by
    rw [hL, gLay_k (fun _ => by decide) (fun z => absurd z (by decide)), upS_nk (by decide), hs 111 2 (by decide) (fun _ => by decide), hn]
  have e112 : ∀ k, L 112 k = σ 112 k := fun k => by
    rw [hL, gLay_k (fun z => absurd z (by decide)) (fun z => absurd z (by decide)), upS_ne (by decide), hs 112 k (by decide) (fun z => absurd z (by decide))]
  obtain ⟨s', hs'⟩ : ∃ s', s' = upS (upS (upS (upS (upS L 111 2 0) 111 3 (n : Int)) 111 4 (lim : Int)) 111 10 0) 111 5 0 := ⟨_, rfl⟩
  have fs : ∀ a k, (a = 111 → k ≠ 2 ∧ k ≠ 3 ∧ k ≠ 4 ∧ k ≠ 5 ∧ k ≠ 10) → s' a k = L a k := fun a k z => by
    rw [hs', upS_rd, if_neg (fun y => (z y.1).2.2.2.1 y.2), upS_rd, if_neg (fun y => (z y.1).2.2.2.2 y.2), upS_rd, if_neg (fun y => (z y.1).2.2.1 y.2), upS_rd, if_neg (fun y => (z y.1).2.1 y.2), upS_rd, if_neg (fun y => (z y.1).1 y.2)]
  have s3 : s' 111 3 = (n : Int) := by rw [hs', upS_nk (by decide), upS_nk (by decide), upS_nk (by decide), upS_eq]
  have s4 : s' 111 4 = (lim : Int) := by rw [hs', upS_nk (by decide), upS_nk (by decide), upS_eq]
  have s5 : s' 111 5 = ((0 : Nat) : Int) := by rw [hs', upS_eq]; rfl
  have s10 : s' 111 10 = 0 := by rw [hs', upS_nk (by decide), upS_eq]
  have s2 : s' 111 2 = 0 := by rw [hs', upS_nk (by decide), upS_nk (by decide), upS_nk (by decide), upS_nk (by decide), upS_eq]
  have hT : TapM (σ 112) n s' := ⟨n640, s3, fun k hk => ⟨by rw [fs 112 k (fun z => absurd z (by decide)), e112], (t4 k (by omega)).2⟩⟩
  obtain ⟨τ', a1, a2, a3, a4, a5, a6, a7, a8⟩ := m_go hT s4 s5 (Nat.zero_le n)
  refine ⟨τ', ?_, ⟨n640, ?_, fun k hk => ?_⟩, ?_, ⟨a2, a3, a4, a5, a6, a7⟩, ?_, ?_, fun a k z => ?_⟩
  · unfold f_M_begin
    rw [xlet_s, hl, xbR_s]
    unfold f_M_gather
    rw [xlet_s, e2, xlet_s, xbW_s, xlet_s, xlet_s, xlet_s, xlet_s, ← hs', a1, xbR_s]
  · rw [a8 111 3 (fun _ => by decide), s3]
  · rw [a8 112 k (fun z => absurd z (by decide))]
    exact hT.2.2 k hk
  · rw [a8 111 4 (fun _ => by decide), s4]
  · rw [a8 111 10 (fun _ => by decide), s10]
  · rw [a8 111 2 (fun _ => by decide), s2]
  · rw [a8 a k (fun y => by
      have := z y
      omega), fs a k (fun y => by
      have := z y
      omega), hL]
theorem tok_start {σ : xSt} (h : Inv0 σ) {lim : Nat} (hl : lim ≤ 640) : ∃ (n c : Nat) (σ2 : xSt), σ 0 1 = (n : Int) ∧ f_Tokens_begin (σ 0 1) (lim : Int) (upS σ 0 1 0) = some σ2 ∧ σ2 2 9 = 0 ∧ σ2 2 10 = 0 ∧ (∀ a k, (a < 2 ∨ 5 < a) → σ2 a k = upS σ 0 1 0 a k) ∧ ∀ s, (∀ a k, 111 ≤ a → (a = 111 → k ≠ 0) → s a k = σ a k) → ∃ τ, f_M_begin (lim : Int) s = some τ ∧ LR (σ 112) n lim c 0 σ2 τ ∧ τ 111 10 = 0 ∧ τ 111 2 = 0 ∧ ∀ a k, (a = 111 → k < 2 ∨ 12 < k) → τ a k = gLay (σ 111 22) (upS s 111 0 0) a k := by
  obtain ⟨t1, t2, t3, t4⟩ := h.1
  obtain ⟨n, hn⟩ : ∃ n : Nat, σ 111 2 = (n : Int) := ⟨(σ 111 2).toNat, by omega⟩
  have n640 : n ≤ 640 := by omega
  have e01 : σ 0 1 = (n : Int) := by rw [t3, hn]
  have hT : TapX (σ 112) n (upS σ 0 1 0) := ⟨n640, fun k hk => by
    rw [upS_ne (by decide)]
    exact t4 k (by omega)⟩
  obtain ⟨c, σ2, b1, b2, b3, b4, b5, b6⟩ := x_begin hT hl
  refine ⟨n, c, σ2, e01, by rw [e01]; exact b1, b4, b5, fun a k z => b6 a k (by omega) (by omega) (by omega) (by omega), fun s hs => ?_⟩
  obtain ⟨τ, c1, c2, c3, c4, c5, c6, c7⟩ := m_begin2 h hs hn lim
  exact ⟨τ, c1, ⟨b2, b3, Nat.zero_le c, Nat.le_trans b2.1 n640, c2, c3, c4⟩, c5, c6, c7⟩
/-- the invariant behind a parser: tape empty, what was told as it should be -/
theorem inv_p {L : xZ} {G M : xSt} (h : Inv0 G) (F : Fr L G M) (hd : disL (S_tab ++ (S_way ++ (S_sen ++ (S_img ++ (S_run ++ S_best))))) L = true) (t0 : M 111 2 = 0) (t1 : M 0 1 = 0) (ht : C_told M) : Inv0 M := by
  obtain ⟨p1, p2, p3, p4, p5, p6, p7, p8⟩ := h
  have ha := F.ag hd
  exact ⟨⟨by omega, by omega, by rw [t0, t1], fun k hk => by omega⟩, p2.ag ha.l, p3.ag ha.r.l, p4.ag ha.r.r.l, p5.ag ha.r.r.r.l, ht, p7.ag ha.r.r.r.r.l, p8.ag ha.r.r.r.r.r⟩
def S_te : xZ := [(0, [7, 17, 18]), (99, [1]), (100, []), (102, [1]), (110, []), (111, [23, 43, 45, 48, 66, 69]), (127, []), (136, [])]
theorem told_ev {G M : xSt} (hp : C_told G) (ha : Ag S_te G M) (h1 : M 0 3 = M 111 10) (h2 : M 96 6 = 0 ∧ (∀ k : Nat, k < 4 → M 124 k = -1) ∨ M 96 6 = 1 ∧ ∀ k : Nat, k < 4 → M 97 k = M 124 k) : C_told M := by
  obtain ⟨-, a2, a3, -, a5, a6, a7, a8⟩ := hp
  have e1 : ∀ k, M 100 k = G 100 k := fun k => ha 100 k rfl
  have e2 : ∀ k, M 127 k = G 127 k := fun k => ha 127 k rfl
  have e3 : ∀ k, M 110 k = G 110 k := fun k => ha 110 k rfl
  have e4 : ∀ k, M 136 k = G 136 k := fun k => ha 136 k rfl
  refine ⟨h1, ?_, ?_, h2, ?_, ?_, ?_, ?_⟩
  · rw [ha 0 7 rfl, ha 111 23 rfl]; exact a2
  · rw [ha 0 7 rfl]; exact a3
  · simp only [e1, e2]
    rw [ha 111 45 rfl, ha 99 1 rfl, ha 111 43 rfl]
    exact a5
  · rw [ha 102 1 rfl, ha 111 48 rfl]; exact a6
  · rw [ha 0 18 rfl, ha 111 69 rfl]; exact a7
  · simp only [e3, e4]
    rw [ha 0 17 rfl, ha 111 66 rfl]
    exact a8
/-- NAMES of the TABLE, for looking them up -/
theorem Inv0.nmT {G : xSt} (h : Inv0 G) {t : Nat} (ht : (t : Int) < G 7 1) : NmR (G 8 t) (G 117 t) := by
  have q := (h.2.1.1.2.2.2.2.2.2.2.2.2.2.2.2.1 t ht).2.2.2.2.2.2.2.2.2.1
  rw [Nat.zero_add] at q
  exact q
theorem Inv0.nmE {G : xSt} (h : Inv0 G) {e : Nat} (he : (e : Int) < G 7 2) : NmR (G 13 e) (G 117 (3 + e)) := by
  have q := (h.2.1.1.2.2.2.2.2.2.2.2.2.2.2.2.2 e he).2.2.2.2.2
  rw [Nat.zero_add] at q
  exact q
theorem thing_find {G σ τ : xSt} (h : Inv0 G) (e1 : ∀ a q, 7 ≤ a → a ≤ 15 → σ a q = G a q) (e2 : ∀ q, τ 113 q = G 113 q) (e3 : ∀ q, τ 117 q = G 117 q) {p q : Int} (hpq : NmR p q) : f_M_things τ = some (G 7 1) ∧ ∃ v : Int, f_Table_thingNamed 7 p σ = some v ∧ f_M_findIn 117 0 (G 7 1) q τ = some v ∧ (v = -1 ∨ 0 ≤ v ∧ v < G 7 1) := by
  obtain ⟨h1, h2, h3⟩ := h.things
  obtain ⟨N, hN⟩ : ∃ N : Nat, G 7 1 = (N : Int) := ⟨(G 7 1).toNat, by omega⟩
  refine ⟨?_, ?_⟩
  · unfold f_M_things
    rw [e2, h1]
  · obtain ⟨v, v1, v2, v3⟩ := thing_lock (σ := σ) (τ := τ) (a0 := 7) (R := 117) (on := 0) (N := N) (by rw [e1 7 1 (by decide) (by decide), hN]) (by omega) (by omega) (fun t ht => by
      rw [e1 8 t (by decide) (by decide), e3, Nat.zero_add]
      exact h.nmT (by omega)) hpq N 1000000 1000000 0 (by omega) (by omega) (by omega)
    rw [c0n] at v1 v2
    exact ⟨v, v1, by rw [hN]; exact v2, by rw [hN]; exact v3⟩
theorem end_find {G σ τ : xSt} (h : Inv0 G) (e1 : ∀ a q, 7 ≤ a → a ≤ 15 → σ a q = G a q) (e2 : ∀ q, τ 113 q = G 113 q) (e3 : ∀ q, τ 117 q = G 117 q) {p q : Int} (hpq : NmR p q) : f_M_ends τ = some (G 7 2) ∧ ∃ v : Int, f_Table_endNamed 7 p σ = some v ∧ f_M_findIn 117 3 (G 7 2) q τ = some v ∧ (v = -1 ∨ 0 ≤ v ∧ v < G 7 2) := by
  obtain ⟨h1, h2, h3⟩ := h.ends
  obtain ⟨N, hN⟩ : ∃ N : Nat, G 7 2 = (N : Int) := ⟨(G 7 2).toNat, by omega⟩
  refine ⟨?_, ?_⟩
  · unfold f_M_ends
    rw [e2, h1]
  · obtain ⟨v, v1, v2, v3⟩ := end_lock (σ := σ) (τ := τ) (a0 := 7) (R := 117) (on := 3) (N := N) (by rw [e1 7 2 (by decide) (by decide), hN]) (by omega) (by omega) (fun t ht => by
      rw [e1 13 t (by decide) (by decide), e3]
      exact h.nmE (by omega)) hpq N 1000000 1000000 0 (by omega) (by omega) (by omega)
    rw [c0n] at v1 v2
    exact ⟨v, v1, by rw [hN]; exact v2, by rw [hN]; exact v3⟩
/-- looking up never fails, whatever is looked up -/
theorem find_any {τ : xSt} {R on N : Nat} {q : Int} (hon : on + N ≤ 9) (hR : ∀ fu (l : Nat), (l : Int) < (N : Int) → ∃ b : Bool, f_M_findIn_3 R (fu + 1) (on : Int) (N : Int) q (l : Int) τ = if b = true then some (l : Int) else f_M_findIn_3 R fu (on : Int) (N : Int) q ((l + 1 : Nat) : Int) τ) (hE : ∀ fu (l : Nat), ¬ (l : Int) < (N : Int) → ∃ v, f_M_findIn_3 R (fu + 1) (on : Int) (N : Int) q (l : Int) τ = some v) : ∀ (j fu l : Nat), l + j = N → j < fu → ∃ v : Int, f_M_findIn_3 R fu (on : Int) (N : Int) q (l : Int) τ = some v := by
  intro j
  induction j with
  | zero =>
    intro fu l g1 g2
    obtain ⟨fu, rfl⟩ : ∃ n2, fu = n2 + 1 := ⟨fu - 1, by omega⟩
    exact hE fu l (by omega)
  | succ j ih =>
    intro fu l g1 g2
    obtain ⟨fu, rfl⟩ : ∃ n2, fu = n2 + 1 := ⟨fu - 1, by omega⟩
    obtain ⟨b, hb⟩ := hR fu l (by omega)
    rw [hb]
    cases b
    · rw [if_neg (by decide)]
      exact ih fu (l + 1) (by omega) (by omega)
    · rw [if_pos rfl]
      exact ⟨_, rfl⟩
theorem find_some {τ : xSt} {on N : Nat} {q : Int} (hon : on + N ≤ 9) : ∃ v : Int, f_M_findIn 117 (on : Int) (N : Int) q τ = some v := by
  obtain ⟨v, hv⟩ := find_any (τ := τ) (R := 117) (q := q) hon (fun fu l hl => by
    have c5 : 0 ≤ ((on + l : Nat) : Int) ∧ ((on + l : Nat) : Int) < 9 := by omega
    have t1 : l < 100000 := by omega
    have c4 : w32 ((on : Int) + (l : Int)) = ((on + l : Nat) : Int) := (w32_o (by omega) (by omega)).trans (by omega)
    by_cases hz : τ 117 (on + l) = q
    · exact ⟨true, by rw [f_M_findIn_3.eq_2, if_pos hl, c4, if_pos c5, Int.toNat_natCast, if_pos (xlc_z.mpr hz), if_pos rfl]⟩
    · exact ⟨false, by rw [f_M_findIn_3.eq_2, if_pos hl, c4, if_pos c5, Int.toNat_natCast, if_neg (fun z => hz (xlc_z.mp z)), w32_n1 t1, xlet_s, if_neg (by decide)]⟩) (fun fu l hl => ⟨-1, by rw [f_M_findIn_3.eq_2, if_neg hl]⟩) N 1000000 0 (by omega) (by omega)
  rw [c0n] at hv
  exact ⟨v, hv⟩
