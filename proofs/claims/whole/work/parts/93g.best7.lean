/-! best: the call -/
theorem m_398 {found : Int} : ∀ (j fu i : Nat) (τ : xSt), i + j = 3 → j < fu → (∀ k : Nat, k < i → τ 135 k = τ 132 k) → ∃ τ', f_M_best_398 fu found (i : Int) τ = some (found, τ') ∧ (∀ k : Nat, k < 3 → τ' 135 k = τ 132 k) ∧ ∀ a q, a ≠ 135 → τ' a q = τ a q := by
  intro j
  induction j with
  | zero =>
    intro fu i τ g1 g2 h0
    obtain ⟨fu, rfl⟩ : ∃ n2, fu = n2 + 1 := ⟨fu - 1, by omega⟩
    obtain rfl : i = 3 := by omega
    refine ⟨τ, ?_, h0, fun _ _ _ => rfl⟩
    rw [f_M_best_398.eq_2, if_neg (by decide)]
  | succ j ih =>
    intro fu i τ g1 g2 h0
    obtain ⟨fu, rfl⟩ : ∃ n2, fu = n2 + 1 := ⟨fu - 1, by omega⟩
    have b2 : 0 ≤ (i : Int) ∧ (i : Int) < 3 := by omega
    have b3 : i < 100000 := by omega
    obtain ⟨τ', t1, t2, t3⟩ := ih fu (i + 1) (upS τ 135 i (τ 132 i)) (by omega) (by omega) (fun k hk => by
      by_cases hz : k = i
      · rw [hz, upS_eq, upS_ne (by decide)]
      · rw [upS_nk hz, upS_ne (by decide)]
        exact h0 k (by omega))
    refine ⟨τ', ?_, fun k hk => by rw [t2 k hk, upS_ne (by decide)], fun a q ha => by rw [t3 a q ha, upS_ne ha]⟩
    rw [f_M_best_398.eq_2, if_pos b2.2, if_pos b2, if_pos b2, Int.toNat_natCast, xlet_s, w32_n1 b3, xlet_s, t1]
theorem lf_ok {M : xSt} {b0 b1 b2 : Bool} {c : Nat} (hc : c < 30) (hv : valB b0 b1 b2 c = true) (h135 : ∀ t : Nat, t < 3 → clB b0 b1 b2 t = true → M 135 (ncB b0 b1 b2 t) = (t : Int)) : LfR M (c : Int) (rkC b0 b1 b2 c : Int) := by
  obtain ⟨-, w2, w3, w4⟩ := rkc_nums b0 b1 b2
  obtain ⟨r1, r2, r3⟩ := w4 c hc hv
  have r30 := (w3 30 (Nat.le_refl _)).1
  refine ⟨by omega, by omega, ?_⟩
  by_cases h3 : c < 3
  · exact Or.inl ⟨by omega, by rw [r2 h3]⟩
  · obtain ⟨r4, r5⟩ := r3 (by omega)
    have hcl := val_cl hv (by omega)
    have e := h135 ((c - 3) / 9) (by omega) hcl
    refine Or.inr ⟨by omega, by omega, by omega, ?_, ?_⟩
    · rw [r4]
      omega
    · have q : (((rkC b0 b1 b2 c : Nat) : Int) - 3) / 9 = ((ncB b0 b1 b2 ((c - 3) / 9) : Nat) : Int) := by
        rw [r4]
        omega
      rw [q, Int.toNat_natCast, e]
      omega
def S_inv7 : xZ := S_tape ++ (S_tab ++ (S_way ++ (S_sen ++ (S_img ++ (S_told ++ S_run)))))
theorem Inv0.split {G M : xSt} (h : Inv0 G) (ha : Ag S_inv7 G M) (hb : C_best M) : Inv0 M := by
  obtain ⟨p1, p2, p3, p4, p5, p6, p7, p8⟩ := h
  exact ⟨p1.ag ha.l, p2.ag ha.r.l, p3.ag ha.r.r.l, p4.ag ha.r.r.r.l, p5.ag ha.r.r.r.r.l, p6.ag ha.r.r.r.r.r.l, p7.ag ha.r.r.r.r.r.r, hb⟩
theorem no_in {S : xZ} {a k : Nat} (h : inS S a k = true) (h2 : inS S a k = false) : False := by
  rw [h] at h2
  cases h2
theorem Fr.both {S : xZ} {σ s : xSt} {a k : Nat} {v : Int} (h : Fr S σ s) : Fr S (upS σ a k v) (upS s a k v) := fun b j hk => by rw [upS_rd, upS_rd, h b j hk]
/-- the class's end -/
def endX (σ : xSt) (lA lB : Nat) (t c1 c2 : Int) : xSt := upS (upS (upS (upS (upS (upS (upS σ 106 1 (rdI (lA : Int) lB 0)) 106 2 (rdI (lA : Int) lB 1)) 106 0 1) 105 1 (σ 7 0)) 105 2 t) 105 3 c1) 105 4 c2
theorem x_106 {o : Nat → Int} {σ τ : xSt} {b0 b1 b2 : Bool} {found : Int} {U V : Nat} (hR : RB o σ τ b0 b1 b2 found U V) : (σ 105 8 = 0 ∧ f_Best_search_106 σ = some (-1, σ)) ∨
    ∃ lA lB t c1 c2 : Nat, σ 105 8 = 1 ∧ 0 < lB ∧ σ 105 9 = (lA : Int) ∧ σ 105 10 = (lB : Int) ∧ σ 105 11 = (t : Int) ∧ σ 105 12 = (c1 : Int) ∧ σ 105 13 = (c2 : Int) ∧ f_Best_search_106 σ = some (((3 + 2 * Ta c1 + 2 * Ta c2 : Nat) : Int), endX σ lA lB (t : Int) (c1 : Int) (c2 : Int)) := by
  obtain ⟨-, -, hR⟩ := hR
  rcases hR with ⟨z1, -⟩ | ⟨z1, lA, lB, t, c1, c2, z2, z3, z4, z5, z6, z7, z8, z9, z10, z11, z12, z13, z14, z15, z16, z17, z18, -⟩
  · refine Or.inl ⟨z1, ?_⟩
    unfold f_Best_search_106
    rw [if_pos z1]
  · refine Or.inr ⟨lA, lB, t, c1, c2, z1, z4, z2, z3, z16, z17, z18, ?_⟩
    have q1 : -9223372036854775808 < ((lA : Nat) : Int) := by omega
    have q2 : ((lA : Nat) : Int) < 9223372036854775808 := by omega
    have q3 : lB < 9223372036854775808 := by omega
    have n0 : ¬ σ 105 8 = 0 := by omega
    have t1 := Ta_le c1
    have t2 := Ta_le c2
    have e1 : w32 (2 * (Ta c1 : Int)) = ((2 * Ta c1 : Nat) : Int) := (w32_o (by omega) (by omega)).trans (by omega)
    have e2 : w32 (2 * (Ta c2 : Int)) = ((2 * Ta c2 : Nat) : Int) := (w32_o (by omega) (by omega)).trans (by omega)
    have e3 : w32 (3 + ((2 * Ta c1 : Nat) : Int)) = ((3 + 2 * Ta c1 : Nat) : Int) := (w32_o (by omega) (by omega)).trans (by omega)
    have e4 : w32 (((3 + 2 * Ta c1 : Nat) : Int) + ((2 * Ta c2 : Nat) : Int)) = ((3 + 2 * Ta c1 + 2 * Ta c2 : Nat) : Int) := (w32_o (by omega) (by omega)).trans (by omega)
    have pu := x_put (σ := σ) (a0 := 106) (u := (lA : Int)) (b := lB) q1 q2 z4 q3
    generalize hv0 : rdI (lA : Int) lB 0 = v0 at pu
    generalize hv1 : rdI (lA : Int) lB 1 = v1 at pu
    have r11 : ∀ x, (upS (upS (upS (upS σ 106 1 v0) 106 2 v1) 106 0 1) 105 1 x) 105 11 = (t : Int) := fun x => by rw [upS_nk (by decide), upS_ne (by decide), upS_ne (by decide), upS_ne (by decide), z16]
    have r12 : ∀ x y, (upS (upS (upS (upS (upS σ 106 1 v0) 106 2 v1) 106 0 1) 105 1 x) 105 2 y) 105 12 = (c1 : Int) := fun x y => by rw [upS_nk (by decide), upS_nk (by decide), upS_ne (by decide), upS_ne (by decide), upS_ne (by decide), z17]
    have r13 : ∀ x y z, (upS (upS (upS (upS (upS (upS σ 106 1 v0) 106 2 v1) 106 0 1) 105 1 x) 105 2 y) 105 3 z) 105 13 = (c2 : Int) := fun x y z => by rw [upS_nk (by decide), upS_nk (by decide), upS_nk (by decide), upS_ne (by decide), upS_ne (by decide), upS_ne (by decide), z18]
    have r70 : (upS (upS (upS σ 106 1 v0) 106 2 v1) 106 0 1) 7 0 = σ 7 0 := by rw [upS_ne (by decide), upS_ne (by decide), upS_ne (by decide)]
    unfold f_Best_search_106 endX
    rw [if_neg n0, z2, z3, pu, xbW_s, if_neg (by decide), r70, xlet_s, r11, xlet_s, r12, xlet_s, r13, xlet_s, upS_nk (show 3 ≠ 4 by decide), upS_eq, upS_eq, x_thrown, xbR_s, x_thrown, xbR_s, e1, e2, e3, e4, hv0, hv1]
theorem CoM_of {G τ : xSt} (h : Inv0 G) {T : Nat} (hT : G 7 1 = (T : Int)) (hT3 : T ≤ 3) (h113 : ∀ q, τ 113 q = G 113 q) (h57 : τ 111 57 = (ncB (clT G 0) (clT G 1) (clT G 2) T : Int)) (h132 : ∀ x : Nat, x < T → cl3 G x = true → τ 132 (ncB (clT G 0) (clT G 1) (clT G 2) x) = (x : Int)) : CoM τ (clT G 0) (clT G 1) (clT G 2) (p0N G) (p1N G) (aN G) := by
  have hno : ∀ t : Nat, T ≤ t → t < 3 → clT G t ≠ true := fun t ht ht3 z => by
    have := (of_decide_eq_true z).1
    omega
  have ncs : ∀ t, ncB (clT G 0) (clT G 1) (clT G 2) (t + 1) = ncB (clT G 0) (clT G 1) (clT G 2) t + (if cl3 G t = true then 1 else 0) := fun _ => rfl
  have nT : ncB (clT G 0) (clT G 1) (clT G 2) T = ncB (clT G 0) (clT G 1) (clT G 2) 3 := by
    have n0 : ncB (clT G 0) (clT G 1) (clT G 2) 1 = ncB (clT G 0) (clT G 1) (clT G 2) 0 + (if cl3 G 0 = true then 1 else 0) := ncs 0
    have n1 : ncB (clT G 0) (clT G 1) (clT G 2) 2 = ncB (clT G 0) (clT G 1) (clT G 2) 1 + (if cl3 G 1 = true then 1 else 0) := ncs 1
    have n2 : ncB (clT G 0) (clT G 1) (clT G 2) 3 = ncB (clT G 0) (clT G 1) (clT G 2) 2 + (if cl3 G 2 = true then 1 else 0) := ncs 2
    rw [cl3_t (by decide)] at n0 n1 n2
    have hT4 : T = 0 ∨ T = 1 ∨ T = 2 ∨ T = 3 := by omega
    rcases hT4 with rfl | rfl | rfl | rfl
    · rw [if_neg (hno 0 (by omega) (by omega))] at n0
      rw [if_neg (hno 1 (by omega) (by omega))] at n1
      rw [if_neg (hno 2 (by omega) (by omega))] at n2
      omega
    · rw [if_neg (hno 1 (by omega) (by omega))] at n1
      rw [if_neg (hno 2 (by omega) (by omega))] at n2
      omega
    · rw [if_neg (hno 2 (by omega) (by omega))] at n2
      omega
    · rfl
  refine ⟨by rw [h57, nT], fun t ht hc => ?_⟩
  have hc2 : clT G t = true := by
    rw [← cl3_t ht]
    exact hc
  obtain ⟨f1, f2, f3, f4, f5, f6, f7, f8, f9, f10⟩ := coin_f h hc2
  have q := h.th (p := (t : Int)) (by omega) f1
  rw [Int.toNat_natCast] at q
  obtain ⟨-, -, -, q4, -, -, q7, -⟩ := q
  have r0 := (q7 0 (by omega)).1
  have r1 := (q7 1 (by omega)).1
  rw [Nat.add_zero, Nat.add_zero] at r0
  refine ⟨h132 t (by omega) hc, ?_, ?_, ?_, f6, f7, f8, f9, f10⟩
  · rw [h113, ← r0, f3]
  · rw [h113, show 7 + 8 * t = 6 + 8 * t + 1 by omega, ← r1, f4]
  · rw [h113, ← q4, f5]
theorem cl_cg {σ G : xSt} (h : ∀ a k, a ≤ 110 → G a k = σ a k) (t : Nat) : clT G t = clT σ t := by
  unfold clT
  rw [h 7 1 (by decide), h 9 t (by decide), h 7 3 (by decide)]
/-- a coin of the table is one of every table of the same number -/
theorem BsR_new {M : xSt} {b : Nat} (hb : 0 ≤ M b 0 ∧ M b 0 ≤ M 0 7) (hE : TbE M 7 b) (h105 : M 105 1 = M 7 0) (h2 : 2 ≤ M 7 2) (k1 : CnR M 7 (M 105 2)) (k2 : 3 ≤ M 105 3 → CnR M 7 ((M 105 3 - 3) / 9)) (k3 : 3 ≤ M 105 4 → CnR M 7 ((M 105 4 - 3) / 9)) : BsR M b := by
  refine ⟨hb.1, hb.2, fun _ h0 => ?_⟩
  obtain ⟨e1, e2, e3⟩ := hE (by rw [h0, h105])
  have cn : ∀ t : Int, CnR M 7 t → CnR M b t := fun t ht => by
    obtain ⟨c1, c2, c3⟩ := ht
    refine ⟨c1, by rw [← e1]; exact c2, ?_⟩
    rw [← e3 t.toNat (by omega)]
    exact c3
  exact ⟨by rw [← e2]; exact h2, cn _ k1, fun z => cn _ (k2 z), fun z => cn _ (k3 z)⟩
set_option maxHeartbeats 4000000 in
theorem sim_best {n : Nat} : SimW (InvN (n + 1)) (InvN n) f_X_best f_M_best := by
  refine simW0 (fun σ h => ?_)
  obtain ⟨hl, hIG, h22, g7, gc⟩ := lay0 h
  obtain ⟨ht, ht0, ht3⟩ := h.things
  obtain ⟨T, hT⟩ : ∃ T : Nat, σ 7 1 = (T : Int) := ⟨(σ 7 1).toNat, by omega⟩
  have hT3 : T ≤ 3 := by omega
  have s0 : ∀ a q, 7 ≤ a → a ≤ 15 → (upS σ 105 8 0) a q = σ a q := fun a q z1 z2 => upS_ne (by omega)
  obtain ⟨σ1, a1, a2, a3⟩ := x_search7 h 30 1000000 0 (upS σ 105 8 0) (by omega) (by omega) s0 (fun c hc => absurd hc (Nat.not_lt_zero _))
  rw [c0n] at a1
  have s1 : ∀ a q, 7 ≤ a → a ≤ 15 → σ1 a q = σ a q := fun a q z1 z2 => by rw [a3 a q (by omega) (by omega) (by omega)]; exact s0 a q z1 z2
  have f8 : σ1 105 8 = 0 := by rw [a3 105 8 (by decide) (by decide) (by decide), upS_eq]
  have xs : f_X_best σ = (xbW (f_Best_search_59 1000000 0 σ1) fun r1 σ2 => some (r1, σ2)) := by
    unfold f_X_best f_Best_search
    rw [xlet_s, a1]
  have e1f : ∀ a q, (a = 105 → q < 8) → a ≠ 107 → a ≠ 108 → a ≠ 109 → σ1 a q = σ a q := fun a q h1 h3 h4 h5 => by
    rw [a3 a q h3 h4 h5, upS_rd, if_neg (fun z => by have := h1 z.1; omega)]
  have lay2 : ∀ s : xSt, s 111 22 = σ 111 22 → f_M_lay (upS s 111 0 0) = some (gLay (σ 111 22) (upS s 111 0 0)) := fun s hs => gLay_f (by rw [upS_nk (by decide)]; exact hs)
  have lay3 : ∀ (s : xSt) (a q : Nat), s a q = σ a q → gLay (σ 111 22) (upS s 111 0 0) a q = gLay (σ 111 22) (upS σ 111 0 0) a q := fun s a q hs => gLay_cg (by rw [upS_rd, upS_rd, hs])
  have k8 : ∀ k, inS S_inv 105 k = true → k < 8 := fun k hk => by
    have e : inS S_inv 105 k = ([1, 2, 3, 4].any (Nat.beq k) || false) := rfl
    rw [e, Bool.or_false] at hk
    obtain ⟨x, hx, hx2⟩ := List.any_eq_true.mp hk
    have := Nat.eq_of_beq_eq_true hx2
    simp only [List.mem_cons, List.not_mem_nil, or_false] at hx
    omega
  by_cases he : σ 7 2 < 2
  · have x59 : f_Best_search_59 1000000 0 σ1 = some (-1, σ1) := by
      have h106 : f_Best_search_106 σ1 = some (-1, σ1) := by
        unfold f_Best_search_106
        rw [if_pos f8]
      rw [show (1000000 : Nat) = 999999 + 1 from rfl, f_Best_search_59.eq_2, s1 7 1 (by decide) (by decide), s1 7 2 (by decide) (by decide)]
      by_cases h0 : (0 : Int) < σ 7 1
      · rw [if_pos h0, if_pos he, h106]
      · rw [if_neg h0, h106]
    have e22 : σ1 111 22 = σ 111 22 := e1f 111 22 (fun z => absurd z (by decide)) (by decide) (by decide) (by decide)
    have ag : Ag S_inv (gLay (σ 111 22) (upS σ 111 0 0)) (gLay (σ 111 22) (upS σ1 111 0 0)) := fun a k hk => lay3 σ1 a k (e1f a k (by
      rintro rfl
      exact k8 k hk) (by
      rintro rfl
      exact (no_in hk rfl).elim) (by
      rintro rfl
      exact (no_in hk rfl).elim) (by
      rintro rfl
      exact (no_in hk rfl).elim))
    obtain ⟨p1, p2, p3, p4, p5, p6, p7, p8⟩ := hIG
    refine ⟨-1, σ1, gLay (σ 111 22) (upS σ1 111 0 0), ?_, ?_, ⟨p1.ag ag.l, p2.ag ag.r.l, p3.ag ag.r.r.l, p4.ag ag.r.r.r.l, p5.ag ag.r.r.r.r.l, p6.ag ag.r.r.r.r.r.l, p7.ag ag.r.r.r.r.r.r.l, p8.ag ag.r.r.r.r.r.r.r⟩, ?_⟩
    · rw [xs, x59, xbW_s]
    · have hme : gLay (σ 111 22) (upS σ1 111 0 0) 113 1 < 2 := by
        rw [lay3 σ1 113 1 (e1f 113 1 (fun z => absurd z (by decide)) (by decide) (by decide) (by decide))]
        have : gLay (σ 111 22) (upS σ 111 0 0) 113 1 = σ 7 2 := by
          have := p2.1.2.2.2.2.1
          have e : gLay (σ 111 22) (upS σ 111 0 0) 7 2 = gLay (σ 111 22) (upS σ 111 0 0) 113 1 := this
          rw [← e, gc 7 2 (by decide)]
        rw [this]
        exact he
      unfold f_M_best
      rw [xlet_s, lay2 σ1 e22, xbR_s, m_ends_, xbR_s, if_pos hme]
    · rw [lay3 σ1 0 7 (e1f 0 7 (fun z => absurd z (by decide)) (by decide) (by decide) (by decide))]
      exact g7
  · have hG7 : gLay (σ 111 22) (upS σ 111 0 0) 7 1 = (T : Int) := by rw [gc 7 1 (by decide), hT]
    -- the model's coins, on any state with the same row
    have coins : ∀ L : xSt, (∀ q, L 113 q = gLay (σ 111 22) (upS σ 111 0 0) 113 q) → ∃ τ1, f_M_layCoins L = some τ1 ∧ CoM τ1 (clT σ 0) (clT σ 1) (clT σ 2) (p0N σ) (p1N σ) (aN σ) ∧ ∀ a q, a ≠ 132 → (a = 111 → q ≠ 57) → τ1 a q = L a q := by
      intro L hLq
      obtain ⟨τ1, t1, t2, t3, t4⟩ := m_layC7 hIG h22 hG7 hT3 T 1000000 0 (upS L 111 57 0) (by omega) (by omega) (fun q => by rw [upS_ne (by decide), hLq]) (by rw [upS_eq]; rfl) (fun x hx => absurd hx (Nat.not_lt_zero _))
      have cm := CoM_of (τ := τ1) hIG hG7 hT3 (fun q => by rw [t4 113 q (by decide) (fun z => absurd z (by decide)), upS_ne (by decide), hLq]) t2 t3
      have ep0 : p0N (gLay (σ 111 22) (upS σ 111 0 0)) = p0N σ := funext (fun t => by unfold p0N; rw [gc 12 _ (by decide)])
      have ep1 : p1N (gLay (σ 111 22) (upS σ 111 0 0)) = p1N σ := funext (fun t => by unfold p1N; rw [gc 12 _ (by decide)])
      have eA : aN (gLay (σ 111 22) (upS σ 111 0 0)) = aN σ := funext (fun t => by unfold aN; rw [gc 11 _ (by decide)])
      rw [cl_cg gc 0, cl_cg gc 1, cl_cg gc 2, ep0, ep1, eA] at cm
      refine ⟨τ1, ?_, cm, fun a q ha hb => by rw [t4 a q ha hb, upS_rd, if_neg (fun z => hb z.1 z.2)]⟩
      unfold f_M_layCoins
      rw [xlet_s]
      exact t1
    have coF : ∀ t : Nat, t < 3 → clB (clT σ 0) (clT σ 1) (clT σ 2) t = true → clT σ t = true := fun t ht hc => by
      rw [← cl3_t ht]
      exact hc
    have hA : ∀ t, t < 3 → clB (clT σ 0) (clT σ 1) (clT σ 2) t = true → 1 ≤ aN σ t ∧ aN σ t ≤ 9 := fun t ht hc => by
      obtain ⟨-, -, -, -, -, -, -, f8, f9, -⟩ := coin_f h (coF t ht hc)
      exact ⟨f8, f9⟩
    obtain ⟨al1, al2, al3⟩ := aPr_f hA 3 (Nat.le_refl 3)
    have al2 : aPr (clT σ 0) (clT σ 1) (clT σ 2) (aN σ) 3 ≤ 729 := al2
    have hF : CoF (clT σ 0) (clT σ 1) (clT σ 2) (p0N σ) (p1N σ) (aN σ) (aPr (clT σ 0) (clT σ 1) (clT σ 2) (aN σ) 3) := ⟨al1, al2, fun t ht hc => by
      obtain ⟨-, -, -, -, -, f6, f7, f8, f9, f10⟩ := coin_f h (coF t ht hc)
      exact ⟨f6, f7, f8, f9, f10, al3 t ht hc⟩⟩
    have hTc : ∀ t : Nat, T ≤ t → clB (clT σ 0) (clT σ 1) (clT σ 2) t = false := fun t ht => by
      cases hz : clB (clT σ 0) (clT σ 1) (clT σ 2) t with
      | false => rfl
      | true =>
        by_cases h3 : t < 3
        · have := (of_decide_eq_true (coF t h3 hz)).1
          omega
        · unfold clB at hz
          rw [if_neg (by omega), if_neg (by omega), if_neg (by omega)] at hz
          cases hz
    have hcc : ∀ t : Nat, t < T → ∀ s : xSt, (∀ a q, 7 ≤ a → a ≤ 15 → s a q = σ a q) → f_Table_isClosedCoin (t : Int) s = some (if clB (clT σ 0) (clT σ 1) (clT σ 2) t = true then 1 else 0) ∧ (clB (clT σ 0) (clT σ 1) (clT σ 2) t = true → f_Table_partsOf (t : Int) 0 s = some (p0N σ t : Int) ∧ f_Table_partsOf (t : Int) 1 s = some (p1N σ t : Int)) := fun t htT s hs => by
      have ht3' : t < 3 := by omega
      have ec : clB (clT σ 0) (clT σ 1) (clT σ 2) t = clT σ t := cl3_t ht3'
      rw [ec]
      refine ⟨x_closed ht3' ht3 hs, fun hc => ?_⟩
      obtain ⟨f1, f2, f3, f4, -⟩ := coin_f h hc
      have e71 : s 7 1 = σ 7 1 := hs 7 1 (by decide) (by decide)
      rw [x_partsOf (by omega), x_partsOf (by omega), if_pos (by omega), if_pos (by omega), Int.toNat_natCast, show 6 * t + (0 : Int).toNat = 6 * t from rfl, show 6 * t + (1 : Int).toNat = 6 * t + 1 from rfl, hs 12 _ (by decide) (by decide), hs 12 _ (by decide) (by decide), f3, f4]
      exact ⟨rfl, rfl⟩
    have run : ∀ τ1 : xSt, CoM τ1 (clT σ 0) (clT σ 1) (clT σ 2) (p0N σ) (p1N σ) (aN σ) → _ := fun τ1 hC => best_coins (σ0 := σ) (o := fun q => τ1 133 q) hF hT3 hTc hT (by omega) hcc T 1000000 1000000 0 0 1 (-1) σ1 τ1 (by omega) (by omega) (by omega) s1 hC a2 ⟨by decide, by decide, Or.inl ⟨f8, rfl, fun _ => rfl⟩⟩
    obtain ⟨τs, -, cs, -⟩ := coins _ (fun _ => rfl)
    obtain ⟨σ', τ0, found, U, V, b1, -, b3, b4, -⟩ := run τs cs
    rw [c0n] at b1
    -- the class's end
    obtain ⟨r, s, hrs, hsq⟩ : ∃ r s, f_Best_search_106 σ' = some (r, s) ∧ ∀ a q, a ≠ 105 → a ≠ 106 → s a q = σ' a q := by
      rcases x_106 b3 with ⟨-, z⟩ | ⟨lA, lB, t, c1, c2, -, -, -, -, -, -, -, z⟩
      · exact ⟨_, _, z, fun _ _ _ _ => rfl⟩
      · refine ⟨_, _, z, fun a q ha hb => ?_⟩
        unfold endX
        rw [upS_ne ha, upS_ne ha, upS_ne ha, upS_ne ha, upS_ne hb, upS_ne hb, upS_ne hb]
    have hX : f_X_best σ = some (r, s) := by rw [xs, b1, hrs, xbW_s]
    have hsσ : ∀ a q, a ≠ 105 → a ≠ 106 → a ≠ 107 → a ≠ 108 → a ≠ 109 → s a q = σ a q := fun a q h1 h2 h3 h4 h5 => by
      rw [hsq a q h1 h2, b4 a q (fun z => absurd z h1), e1f a q (fun z => absurd z h1) h3 h4 h5]
    have e22 : s 111 22 = σ 111 22 := hsσ 111 22 (by decide) (by decide) (by decide) (by decide) (by decide)
    have hLq : ∀ a q, a ≠ 105 → a ≠ 106 → a ≠ 107 → a ≠ 108 → a ≠ 109 → gLay (σ 111 22) (upS s 111 0 0) a q = gLay (σ 111 22) (upS σ 111 0 0) a q := fun a q h1 h2 h3 h4 h5 => lay3 s a q (hsσ a q h1 h2 h3 h4 h5)
    obtain ⟨τ1, d1, d2, d3⟩ := coins (gLay (σ 111 22) (upS s 111 0 0)) (fun q => hLq 113 q (by decide) (by decide) (by decide) (by decide) (by decide))
    obtain ⟨σ'', τ2, found2, U2, V2, m1, m2, m3, m4, m5⟩ := run τ1 d2
    rw [c0n, b1] at m1
    have m69 := m_best27 d2 3 0 (999999 - ncB (clT σ 0) (clT σ 1) (clT σ 2) 3) (by omega)
    have nc3 := (rkc_nums (clT σ 0) (clT σ 1) (clT σ 2)).2.1
    have z0 : ncB (clT σ 0) (clT σ 1) (clT σ 2) 0 = 0 := rfl
    have a0 : aPr (clT σ 0) (clT σ 1) (clT σ 2) (aN σ) 0 = 1 := rfl
    rw [z0, a0, Nat.sub_zero, show 999999 - ncB (clT σ 0) (clT σ 1) (clT σ 2) 3 + 1 + ncB (clT σ 0) (clT σ 1) (clT σ 2) 3 = 1000000 by omega] at m69
    rw [z0] at m2
    have m69 : f_M_best_27 1000000 1 0 τ1 = mE69 found2 (U2 : Int) (V2 : Int) τ2 := m69.trans m2
    have hme : ¬ gLay (σ 111 22) (upS s 111 0 0) 113 1 < 2 := by
      rw [hLq 113 1 (by decide) (by decide) (by decide) (by decide) (by decide), ← hIG.ends.1, gc 7 2 (by decide)]
      exact he
    have hM : f_M_best s = mE69 found2 (U2 : Int) (V2 : Int) τ2 := by
      unfold f_M_best
      rw [xlet_s, lay2 s e22, xbR_s, m_ends_, xbR_s, if_neg hme, d1, xbR_s, m69]
    have t2L : ∀ a q, a ≠ 132 → a ≠ 133 → a ≠ 134 → (a = 111 → q ≠ 57) → τ2 a q = gLay (σ 111 22) (upS s 111 0 0) a q := fun a q h1 h2 h3 h4 => by rw [m5 a q h3 h2, d3 a q h1 h4]
    have ag7 : ∀ M : xSt, (∀ a q, a ≠ 135 → (a = 111 → q ≠ 58 ∧ q ≠ 59 ∧ q ≠ 60 ∧ q ≠ 61) → M a q = τ2 a q) → Ag S_inv7 (gLay (σ 111 22) (upS σ 111 0 0)) M := fun M hMq a k hk => by
      have n5 : a ≠ 105 := by
        rintro rfl
        exact (no_in hk rfl).elim
      have n6 : a ≠ 106 := by
        rintro rfl
        exact (no_in hk rfl).elim
      have n7 : a ≠ 107 := by
        rintro rfl
        exact (no_in hk rfl).elim
      have n8 : a ≠ 108 := by
        rintro rfl
        exact (no_in hk rfl).elim
      have n9 : a ≠ 109 := by
        rintro rfl
        exact (no_in hk rfl).elim
      have n32 : a ≠ 132 := by
        rintro rfl
        exact (no_in hk rfl).elim
      have n33 : a ≠ 133 := by
        rintro rfl
        exact (no_in hk rfl).elim
      have n34 : a ≠ 134 := by
        rintro rfl
        exact (no_in hk rfl).elim
      have n35 : a ≠ 135 := by
        rintro rfl
        exact (no_in hk rfl).elim
      rw [hMq a k n35 (by
        rintro rfl
        refine ⟨?_, ?_, ?_, ?_⟩ <;> (rintro rfl; exact (no_in hk rfl).elim)), t2L a k n32 n33 n34 (by
        rintro rfl rfl
        exact (no_in hk rfl).elim), hLq a k n5 n6 n7 n8 n9]
    have p8 := hIG.2.2.2.2.2.2.2
    rcases x_106 m3 with ⟨y1, y2⟩ | ⟨lA, lB, t, c1, c2, y1, y3, y4, y5, y6, y7, y8, y2⟩
    · -- none
      rw [m1] at hrs
      rw [y2] at hrs
      obtain ⟨hr, hs⟩ := Prod.mk.inj (Option.some.inj hrs)
      obtain ⟨-, -, hR⟩ := m3
      rcases hR with ⟨-, z2, z3⟩ | ⟨z1, -⟩
      · have hM2 : f_M_best s = some (r, τ2) := by
          rw [hM]
          unfold mE69
          rw [if_pos z2, hr]
        have agb : Ag S_best (gLay (σ 111 22) (upS σ 111 0 0)) τ2 := fun a k hk => by
          have n7 : a ≠ 107 := by
            rintro rfl
            exact (no_in hk rfl).elim
          have n8 : a ≠ 108 := by
            rintro rfl
            exact (no_in hk rfl).elim
          have n9 : a ≠ 109 := by
            rintro rfl
            exact (no_in hk rfl).elim
          have n32 : a ≠ 132 := by
            rintro rfl
            exact (no_in hk rfl).elim
          have n34 : a ≠ 134 := by
            rintro rfl
            exact (no_in hk rfl).elim
          have n57 : a = 111 → k ≠ 57 := by
            rintro rfl rfl
            exact (no_in hk rfl).elim
          have hsk : s a k = σ a k := by
            rw [← hs, m4 a k (by
              rintro rfl
              have e : inS S_best 105 k = ([1, 2, 3, 4].any (Nat.beq k) || false) := rfl
              rw [e, Bool.or_false] at hk
              obtain ⟨x, hx, hx2⟩ := List.any_eq_true.mp hk
              have := Nat.eq_of_beq_eq_true hx2
              simp only [List.mem_cons, List.not_mem_nil, or_false] at hx
              omega), e1f a k (by
              rintro rfl
              have e : inS S_best 105 k = ([1, 2, 3, 4].any (Nat.beq k) || false) := rfl
              rw [e, Bool.or_false] at hk
              obtain ⟨x, hx, hx2⟩ := List.any_eq_true.mp hk
              have := Nat.eq_of_beq_eq_true hx2
              simp only [List.mem_cons, List.not_mem_nil, or_false] at hx
              omega) n7 n8 n9]
          by_cases h33 : a = 133
          · subst h33
            rw [z3 k]
            show τ1 133 k = _
            rw [d3 133 k (by decide) (fun z => absurd z (by decide))]
            exact lay3 s 133 k hsk
          · rw [t2L a k n32 h33 n34 n57]
            exact lay3 s a k hsk
        refine ⟨r, s, τ2, hX, hM2, hIG.split (ag7 τ2 (fun _ _ _ _ => rfl)) (p8.ag agb), ?_⟩
        rw [t2L 0 7 (by decide) (by decide) (by decide) (fun z => absurd z (by decide)), hLq 0 7 (by decide) (by decide) (by decide) (by decide) (by decide)]
        exact g7
      · omega
    · -- one
      rw [m1] at hrs
      rw [y2] at hrs
      obtain ⟨hr, hs⟩ := Prod.mk.inj (Option.some.inj hrs)
      obtain ⟨-, -, hR⟩ := m3
      rcases hR with ⟨z1, -⟩ | ⟨-, lA', lB', t', c1', c2', w1, w2, w3, w4, w5, w6, w7, w8, w9, w10, w11, w12, w13, w14, w15, w16, w17, w18, w19, w20, w21⟩
      · omega
      · obtain rfl : lA' = lA := by omega
        obtain rfl : lB' = lB := by omega
        obtain rfl : t' = t := by omega
        obtain rfl : c1' = c1 := by omega
        obtain rfl : c2' = c2 := by omega
        have q3 : ¬ found2 = -1 := by omega
        obtain ⟨M, v1, v2, v3⟩ := m_398 (found := found2) 3 1000000 0 (upS (upS (upS (upS τ2 111 58 found2) 111 59 (τ2 113 3)) 111 60 (U2 : Int)) 111 61 (V2 : Int)) (by omega) (by omega) (fun k hk => absurd hk (Nat.not_lt_zero _))
        rw [c0n] at v1
        have hM2 : f_M_best s = some (r, M) := by
          rw [hM]
          unfold mE69
          rw [if_neg q3, xlet_s, upS_ne (by decide), xlet_s, xlet_s, xlet_s, v1, ← hr, w18]
        have hMq : ∀ a q, a ≠ 135 → (a = 111 → q ≠ 58 ∧ q ≠ 59 ∧ q ≠ 60 ∧ q ≠ 61) → M a q = τ2 a q := fun a q ha hb => by
          rw [v3 a q ha, upS_rd, if_neg (fun z => (hb z.1).2.2.2 z.2), upS_rd, if_neg (fun z => (hb z.1).2.2.1 z.2), upS_rd, if_neg (fun z => (hb z.1).2.1 z.2), upS_rd, if_neg (fun z => (hb z.1).1 z.2)]
        -- the class's places at the end
        have cl : ∀ a q, a ≤ 110 → M a q = s a q := fun a q ha => by
          rw [hMq a q (by omega) (fun z => by omega), t2L a q (by omega) (by omega) (by omega) (fun z => by omega), gLay_k (by omega) (by omega), upS_ne (by omega)]
        have M7 : ∀ q, M 7 q = σ 7 q := fun q => (cl 7 q (by decide)).trans (hsσ 7 q (by decide) (by decide) (by decide) (by decide) (by decide))
        have M10 : ∀ q, M 10 q = σ 10 q := fun q => (cl 10 q (by decide)).trans (hsσ 10 q (by decide) (by decide) (by decide) (by decide) (by decide))
        have M48 : ∀ q, M 48 q = σ 48 q := fun q => (cl 48 q (by decide)).trans (hsσ 48 q (by decide) (by decide) (by decide) (by decide) (by decide))
        have M51 : ∀ q, M 51 q = σ 51 q := fun q => (cl 51 q (by decide)).trans (hsσ 51 q (by decide) (by decide) (by decide) (by decide) (by decide))
        have M68 : ∀ q, M 68 q = σ 68 q := fun q => (cl 68 q (by decide)).trans (hsσ 68 q (by decide) (by decide) (by decide) (by decide) (by decide))
        have M71 : ∀ q, M 71 q = σ 71 q := fun q => (cl 71 q (by decide)).trans (hsσ 71 q (by decide) (by decide) (by decide) (by decide) (by decide))
        have M07 : M 0 7 = σ 0 7 := (cl 0 7 (by decide)).trans (hsσ 0 7 (by decide) (by decide) (by decide) (by decide) (by decide))
        have s70 : σ'' 7 0 = σ 7 0 := (m4 7 0 (fun z => absurd z (by decide))).trans (s1 7 0 (by decide) (by decide))
        have g1 : M 105 1 = σ 7 0 := by
          rw [cl 105 1 (by decide), ← hs]
          unfold endX
          rw [upS_nk (by decide), upS_nk (by decide), upS_nk (by decide), upS_eq, s70]
        have g2 : M 105 2 = (t' : Int) := by
          rw [cl 105 2 (by decide), ← hs]
          unfold endX
          rw [upS_nk (by decide), upS_nk (by decide), upS_eq]
        have g3 : M 105 3 = (c1' : Int) := by
          rw [cl 105 3 (by decide), ← hs]
          unfold endX
          rw [upS_nk (by decide), upS_eq]
        have g4 : M 105 4 = (c2' : Int) := by
          rw [cl 105 4 (by decide), ← hs]
          unfold endX
          rw [upS_eq]
        have g5 : M 106 0 = 1 := by
          rw [cl 106 0 (by decide), ← hs]
          unfold endX
          rw [upS_ne (by decide), upS_ne (by decide), upS_ne (by decide), upS_ne (by decide), upS_eq]
        have g6 : M 106 1 = rdI (lA' : Int) lB' 0 := by
          rw [cl 106 1 (by decide), ← hs]
          unfold endX
          rw [upS_ne (by decide), upS_ne (by decide), upS_ne (by decide), upS_ne (by decide), upS_nk (by decide), upS_nk (by decide), upS_eq]
        have g8 : M 106 2 = rdI (lA' : Int) lB' 1 := by
          rw [cl 106 2 (by decide), ← hs]
          unfold endX
          rw [upS_ne (by decide), upS_ne (by decide), upS_ne (by decide), upS_ne (by decide), upS_nk (by decide), upS_eq]
        have hcr : (lA' : Int) * (V2 : Int) = (U2 : Int) * (lB' : Int) := by
          rw [← Int.natCast_mul, ← Int.natCast_mul, w8]
        have g9 : rdI (lA' : Int) lB' 0 = (U2 : Int) := by
          rw [rdI_eq w3 w6 hcr, rdI_nat, w7, if_pos rfl, Nat.div_one]
        have g10 : rdI (lA' : Int) lB' 1 = (V2 : Int) := by
          rw [rdI_eq w3 w6 hcr, rdI_nat, w7, if_neg (by decide), Nat.div_one]
        have m58 : M 111 58 = found2 := by rw [v3 111 58 (by decide), upS_nk (by decide), upS_nk (by decide), upS_nk (by decide), upS_eq]
        have m60 : M 111 60 = (U2 : Int) := by rw [v3 111 60 (by decide), upS_nk (by decide), upS_eq]
        have m61 : M 111 61 = (V2 : Int) := by rw [v3 111 61 (by decide), upS_eq]
        have m59 : M 111 59 = σ 7 0 := by
          rw [v3 111 59 (by decide), upS_nk (by decide), upS_nk (by decide), upS_eq, t2L 113 3 (by decide) (by decide) (by decide) (fun z => absurd z (by decide)), hLq 113 3 (by decide) (by decide) (by decide) (by decide) (by decide)]
          have e : gLay (σ 111 22) (upS σ 111 0 0) 7 0 = gLay (σ 111 22) (upS σ 111 0 0) 113 3 := hIG.2.1.1.1
          rw [← e, gc 7 0 (by decide)]
        have m133 : ∀ q, M 133 q = τ2 133 q := fun q => hMq 133 q (by decide) (fun z => absurd z (by decide))
        have m135 : ∀ x : Nat, x < 3 → clB (clT σ 0) (clT σ 1) (clT σ 2) x = true → M 135 (ncB (clT σ 0) (clT σ 1) (clT σ 2) x) = (x : Int) := fun x hx hc => by
          have l1 : ncB (clT σ 0) (clT σ 1) (clT σ 2) x < 3 := by
            have hxx : ∀ y, ncB (clT σ 0) (clT σ 1) (clT σ 2) y ≤ y := fun y => by
              induction y with
              | zero => exact Nat.le_refl _
              | succ y ih =>
                show ncB (clT σ 0) (clT σ 1) (clT σ 2) y + (if clB (clT σ 0) (clT σ 1) (clT σ 2) y = true then 1 else 0) ≤ y + 1
                split <;> omega
            have := hxx x
            omega
          rw [v2 _ l1, upS_ne (by decide), upS_ne (by decide), upS_ne (by decide), upS_ne (by decide), m5 132 _ (by decide) (by decide)]
          exact (d2.2 x hx hc).1
        obtain ⟨q1, q2, qq3, q4, q5⟩ := h.2.2.2.2.2.2.2.of
        have ta : ∀ b c : Nat, (∀ q, M b q = σ b q) → (∀ q, M (b + 3) q = σ (b + 3) q) → (∀ q, M c q = σ c q) → (∀ q, M (c + 3) q = σ (c + 3) q) → TbE σ b c → TbE M b c := fun b c h1 h2 h3 h4 h5 => by
          intro h0
          rw [h1, h3] at h0
          obtain ⟨y1, y2, y3⟩ := h5 h0
          rw [h1, h1, h3, h3]
          exact ⟨y1, y2, fun x hx => by rw [h2, h4]; exact y3 x hx⟩
        have tA : TbA M := ⟨ta 7 48 M7 M10 M48 M51 q5.1, ta 7 68 M7 M10 M68 M71 q5.2.1, ta 48 68 M48 M51 M68 M71 q5.2.2⟩
        have cn : ∀ x : Nat, x < 3 → clB (clT σ 0) (clT σ 1) (clT σ 2) x = true → CnR M 7 (x : Int) := fun x hx hc => by
          obtain ⟨f1, f2, -⟩ := coin_f h (coF x hx hc)
          refine ⟨by omega, by rw [M7]; exact f1, ?_⟩
          rw [Int.toNat_natCast, show M (7 + 3) x = σ 10 x from M10 x]
          exact f2
        have cn2 : ∀ c : Nat, c < 30 → valB (clT σ 0) (clT σ 1) (clT σ 2) c = true → 3 ≤ (c : Int) → CnR M 7 (((c : Int) - 3) / 9) := fun c hc hv h3 => by
          have e : ((c : Int) - 3) / 9 = (((c - 3) / 9 : Nat) : Int) := by omega
          rw [e]
          exact cn _ (by omega) (val_cl hv (by omega))
        have h105 : M 105 1 = M 7 0 := by rw [g1, M7]
        have k0 : 2 ≤ M 7 2 := by rw [M7]; omega
        have k1 : CnR M 7 (M 105 2) := by rw [g2]; exact cn t' w9 w10
        have k2 : 3 ≤ M 105 3 → CnR M 7 ((M 105 3 - 3) / 9) := by rw [g3]; exact cn2 c1' w11 w13
        have k3 : 3 ≤ M 105 4 → CnR M 7 ((M 105 4 - 3) / 9) := by rw [g4]; exact cn2 c2' w12 w14
        have nb : ∀ b : Nat, (∀ q, M b q = σ b q) → BsR σ b → 0 ≤ M b 0 ∧ M b 0 ≤ M 0 7 := fun b hb hq => by
          rw [hb, M07]
          exact ⟨hq.1, hq.2.1⟩
        have hbest : C_best M := C_best.mk ⟨BsR_new (nb 7 M7 q1) TbE.rf h105 k0 k1 k2 k3, BsR_new (nb 48 M48 q2) tA.1 h105 k0 k1 k2 k3, BsR_new (nb 68 M68 qq3) tA.2.1 h105 k0 k1 k2 k3,
          Or.inr ⟨g5, ?_, by rw [g1, m59], by rw [g1]; exact q1.1, by rw [g1, M07]; exact q1.2.1, by rw [g6, g9, m60], by rw [g8, g10, m61], by rw [g2]; omega, by rw [g2]; omega, by rw [g2, m133, w19], ?_, ?_⟩, tA⟩
        · refine ⟨r, s, M, hX, hM2, hIG.split (ag7 M hMq) hbest, ?_⟩
          rw [M07]
        · rw [m58, w18]
          have u1 := Ta_le c1'
          have u2 := Ta_le c2'
          omega
        · rw [g3, m133, w20]
          exact lf_ok w11 w13 m135
        · rw [g4, m133, w21]
          exact lf_ok w12 w14 m135
