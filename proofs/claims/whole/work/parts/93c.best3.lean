/-! best: one pair of choices, both sides -/
def mT117 (k69 : Int → Int → Int → Int → Int → xSt → Option (Int × xSt)) (k90 : Int → Int → Int → Int → Int → Int → Int → xSt → Option (Int × xSt)) (l1 l3 l4 l6 l8 l9 l10 : Int) (σ : xSt) : Option (Int × xSt) :=
    if w32 (3 + (w32 (9 * (σ 111 57)))) = 0 then none else
    xlet (xdiv l10 (w32 (3 + (w32 (9 * (σ 111 57)))))) fun x18 =>
    if w32 (3 + (w32 (9 * (σ 111 57)))) = 0 then none else
    xlet (xrem l10 (w32 (3 + (w32 (9 * (σ 111 57)))))) fun x19 =>
    xbR (f_M_sideOf l9 0 σ) fun r20 =>
    xbR (f_M_addSide x18 r20 l1 σ) fun σ21 =>
    xbR (f_M_sideOf l9 1 σ21) fun r22 =>
    xbR (f_M_addSide x19 r22 l1 σ21) fun σ23 =>
    xlet (w64 ((σ23 134 0) + (σ23 134 1))) fun x24 =>
    if xlc x24 0 = 0 then (xlet (w32 (l10 + 1)) fun x25 =>
    k90 l1 l3 l4 l6 l8 l9 x25 σ23)
    else (if xlc (σ23 134 0) (σ23 134 1) = 0 then (if l3 = (-1) then (f_M_best_268 (k69) (k90) l1 l8 l9 l10 x18 x19 x24 σ23)
    else (if xlc (w64 ((σ23 134 3) * l6)) (w64 (l4 * x24)) < 0 then (f_M_best_268 (k69) (k90) l1 l8 l9 l10 x18 x19 x24 σ23)
    else (xlet (w32 (l10 + 1)) fun x26 =>
    k90 l1 l3 l4 l6 l8 l9 x26 σ23)))
    else (xlet (w32 (l10 + 1)) fun x27 =>
    k90 l1 l3 l4 l6 l8 l9 x27 σ23))
theorem m_z117 {k69 : Int → Int → Int → Int → Int → xSt → Option (Int × xSt)} {k90 : Int → Int → Int → Int → Int → Int → Int → xSt → Option (Int × xSt)} {l1 l3 l4 l6 l8 l9 l10 : Int} : ∀ (j fu i : Nat) (τ : xSt), i + j = 4 → j < fu → (∀ k : Nat, k < i → τ 134 k = 0) → ∃ τ', f_M_best_117 k69 k90 fu l1 l3 l4 l6 l8 l9 l10 (i : Int) τ = mT117 k69 k90 l1 l3 l4 l6 l8 l9 l10 τ' ∧ (∀ k : Nat, k < 4 → τ' 134 k = 0) ∧ ∀ a q, a ≠ 134 → τ' a q = τ a q := by
  intro j
  induction j with
  | zero =>
    intro fu i τ g1 g2 h0
    obtain ⟨fu, rfl⟩ : ∃ n2, fu = n2 + 1 := ⟨fu - 1, by omega⟩
    obtain rfl : i = 4 := by omega
    refine ⟨τ, ?_, h0, fun _ _ _ => rfl⟩
    rw [f_M_best_117.eq_2, if_neg (by decide)]
    rfl
  | succ j ih =>
    intro fu i τ g1 g2 h0
    obtain ⟨fu, rfl⟩ : ∃ n2, fu = n2 + 1 := ⟨fu - 1, by omega⟩
    have hi2 : (i : Int) < 4 := by omega
    have b2 : 0 ≤ (i : Int) ∧ (i : Int) < 4 := by omega
    have b3 : i < 100000 := by omega
    obtain ⟨τ', t1, t2, t3⟩ := ih fu (i + 1) (upS τ 134 i 0) (by omega) (by omega) (fun k hk => by
      by_cases hz : k = i
      · rw [hz, upS_eq]
      · rw [upS_nk hz]
        exact h0 k (by omega))
    refine ⟨τ', ?_, t2, fun a q ha => by rw [t3 a q ha, upS_ne ha]⟩
    rw [f_M_best_117.eq_2, if_pos hi2, if_pos b2, Int.toNat_natCast, xlet_s, w32_n1 b3, xlet_s, t1]
/-- the model's weights for END k, and for the throws -/
def Ok (p0 p1 A : Nat → Nat) (all t c1 c2 k : Nat) : Nat := p0 t * Fp p0 p1 c1 k * (all / Wh A c1) + p1 t * Fp p0 p1 c2 k * (all / Wh A c2)
def O3 (p0 p1 : Nat → Nat) (all t c1 c2 : Nat) : Nat := (1 + Ta c1) * (p0 t * all) + (1 + Ta c2) * (p1 t * all)
theorem Ta_le (c : Nat) : Ta c ≤ 1 := by
  unfold Ta
  split <;> omega
theorem m_268 {k69 : Int → Int → Int → Int → Int → xSt → Option (Int × xSt)} {k90 : Int → Int → Int → Int → Int → Int → Int → xSt → Option (Int × xSt)} {l1 l8 l9 : Int} {code r1 r2 c1 c2 u e : Nat} {τ : xSt} (h3 : τ 134 3 = (u : Int)) (hu : u < 9223372036854775808) (he : e < 9223372036854775808) (he0 : 0 < e) (hcode : code < 100000) (h1 : r1 < 3 ↔ c1 < 3) (h2 : r2 < 3 ↔ c2 < 3) :
    f_M_best_268 k69 k90 l1 l8 l9 (code : Int) (r1 : Int) (r2 : Int) (e : Int) τ = k90 l1 ((3 + 2 * Ta c1 + 2 * Ta c2 : Nat) : Int) ((u / Nat.gcd u e : Nat) : Int) ((e / Nat.gcd u e : Nat) : Int) l8 l9 ((code + 1 : Nat) : Int) (upS (upS (upS τ 133 0 l9) 133 1 (r1 : Int)) 133 2 (r2 : Int)) := by
  have hg : 0 < Nat.gcd u e := Nat.gcd_pos_of_pos_right _ he0
  have hg0 : ¬ ((Nat.gcd u e : Nat) : Int) = 0 := by omega
  have k311 : ∀ (x y : Int) (s0 : Nat), s0 = 2 * Ta c1 → f_M_best_311 k69 k90 l1 x y l8 l9 (code : Int) (r1 : Int) (r2 : Int) (s0 : Int) 3 τ = k90 l1 ((3 + 2 * Ta c1 + 2 * Ta c2 : Nat) : Int) x y l8 l9 ((code + 1 : Nat) : Int) (upS (upS (upS τ 133 0 l9) 133 1 (r1 : Int)) 133 2 (r2 : Int)) := by
    intro x y s0 hs
    have t1 := Ta_le c1
    have n1 : 3 + s0 < 100000 := by omega
    have e1 : w32 (3 + (s0 : Int)) = ((3 + s0 : Nat) : Int) := w32_nn (a := 3) n1
    unfold f_M_best_311 f_M_best_323
    by_cases hc : c2 < 3
    · have hr := h2.mpr hc
      have hT : Ta c2 = 0 := by unfold Ta; rw [if_pos hc]
      have e2 : w32 (((3 + s0 : Nat) : Int) + 0) = ((3 + 2 * Ta c1 + 2 * Ta c2 : Nat) : Int) := (w32_o (by omega) (by omega)).trans (by omega)
      rw [if_pos (by omega), e1, e2, xlet_s, xlet_s, xlet_s, xlet_s, w32_n1 hcode, xlet_s]
    · have hr : ¬ r2 < 3 := fun z => hc (h2.mp z)
      have hT : Ta c2 = 1 := by unfold Ta; rw [if_neg hc]
      have e2 : w32 (((3 + s0 : Nat) : Int) + 2) = ((3 + 2 * Ta c1 + 2 * Ta c2 : Nat) : Int) := (w32_o (by omega) (by omega)).trans (by omega)
      rw [if_neg (by omega), e1, e2, xlet_s, xlet_s, xlet_s, xlet_s, w32_n1 hcode, xlet_s]
  unfold f_M_best_268
  rw [h3, m_common_ hu he, xbR_s, if_neg hg0, xldiv_n hu, xlet_s, if_neg hg0, xldiv_n he, xlet_s]
  by_cases hc : c1 < 3
  · have hr := h1.mpr hc
    have hT : Ta c1 = 0 := by unfold Ta; rw [if_pos hc]
    rw [if_pos (by omega)]
    exact k311 _ _ 0 (by rw [hT])
  · have hr : ¬ r1 < 3 := fun z => hc (h1.mp z)
    have hT : Ta c1 = 1 := by unfold Ta; rw [if_neg hc]
    rw [if_neg (by omega)]
    exact k311 _ _ 2 (by rw [hT])
theorem rk_lt3 {b0 b1 b2 : Bool} {c : Nat} (hc : c < 30) (hv : valB b0 b1 b2 c = true) : rkC b0 b1 b2 c < 3 ↔ c < 3 := by
  obtain ⟨-, -, -, r2⟩ := rkc_nums b0 b1 b2
  obtain ⟨-, r4, r5⟩ := r2 c hc hv
  constructor
  · intro h
    by_cases h3 : c < 3
    · exact h3
    · have := (r5 (by omega)).1
      omega
  · intro h
    have := r4 h
    omega
theorem m_117 {k69 : Int → Int → Int → Int → Int → xSt → Option (Int × xSt)} {k90 : Int → Int → Int → Int → Int → Int → Int → xSt → Option (Int × xSt)} {τ : xSt} {b0 b1 b2 : Bool} {p0 p1 A : Nat → Nat} {c1 c2 t all U V : Nat} {found l8 : Int} (hC : CoM τ b0 b1 b2 p0 p1 A) (h1 : c1 < 30) (h2 : c2 < 30) (v1 : valB b0 b1 b2 c1 = true) (v2 : valB b0 b1 b2 c2 = true) (ht : t < 3) (hcl : clB b0 b1 b2 t = true) (hall : all ≤ 729) (hU : U ≤ 1000000) (hV : V ≤ 1000000) :
    ∃ τ2, (∀ a q, a ≠ 134 → τ2 a q = τ a q) ∧ f_M_best_117 k69 k90 1000000 (all : Int) found (U : Int) (V : Int) l8 (t : Int) ((rkC b0 b1 b2 c1 * rkC b0 b1 b2 30 + rkC b0 b1 b2 c2 : Nat) : Int) 0 τ =
      (if Ok p0 p1 A all t c1 c2 0 + Ok p0 p1 A all t c1 c2 1 = 0 then k90 (all : Int) found (U : Int) (V : Int) l8 (t : Int) ((rkC b0 b1 b2 c1 * rkC b0 b1 b2 30 + rkC b0 b1 b2 c2 + 1 : Nat) : Int) τ2
       else if Ok p0 p1 A all t c1 c2 0 = Ok p0 p1 A all t c1 c2 1 ∧ (found = -1 ∨ O3 p0 p1 all t c1 c2 * V < U * (Ok p0 p1 A all t c1 c2 0 + Ok p0 p1 A all t c1 c2 1)) then
        k90 (all : Int) ((3 + 2 * Ta c1 + 2 * Ta c2 : Nat) : Int) ((O3 p0 p1 all t c1 c2 / Nat.gcd (O3 p0 p1 all t c1 c2) (Ok p0 p1 A all t c1 c2 0 + Ok p0 p1 A all t c1 c2 1) : Nat) : Int) (((Ok p0 p1 A all t c1 c2 0 + Ok p0 p1 A all t c1 c2 1) / Nat.gcd (O3 p0 p1 all t c1 c2) (Ok p0 p1 A all t c1 c2 0 + Ok p0 p1 A all t c1 c2 1) : Nat) : Int) l8 (t : Int) ((rkC b0 b1 b2 c1 * rkC b0 b1 b2 30 + rkC b0 b1 b2 c2 + 1 : Nat) : Int) (upS (upS (upS τ2 133 0 (t : Int)) 133 1 (rkC b0 b1 b2 c1 : Int)) 133 2 (rkC b0 b1 b2 c2 : Int))
       else k90 (all : Int) found (U : Int) (V : Int) l8 (t : Int) ((rkC b0 b1 b2 c1 * rkC b0 b1 b2 30 + rkC b0 b1 b2 c2 + 1 : Nat) : Int) τ2) := by
  obtain ⟨w1, w2, w3, w4⟩ := rkc_nums b0 b1 b2
  have r1 := (w4 c1 h1 v1).1
  have r2 := (w4 c2 h2 v2).1
  have rW : rkC b0 b1 b2 30 ≤ 30 := (w3 30 (Nat.le_refl _)).1
  have l31 := rk_lt3 h1 v1
  have l32 := rk_lt3 h2 v2
  obtain ⟨q57, qt⟩ := hC
  obtain ⟨-, d2, d3, -, d5, d6, -, -, -⟩ := qt t ht hcl
  have hC : CoM τ b0 b1 b2 p0 p1 A := ⟨q57, qt⟩
  have sums : ∀ c, c < 30 → valB b0 b1 b2 c = true → 3 ≤ c → p0 ((c - 3) / 9) + p1 ((c - 3) / 9) ≤ 9 := fun c hc hv h3 => by
    have hcl2 : clB b0 b1 b2 ((c - 3) / 9) = true := by
      unfold valB at hv
      have hb : Nat.blt c 3 = false := by
        cases hz : Nat.blt c 3 with
        | false => rfl
        | true => exact absurd (Nat.le_of_ble_eq_true hz) (by omega)
      rw [hb, Bool.false_or] at hv
      exact hv
    obtain ⟨-, -, -, -, -, -, -, z8, z9⟩ := qt _ (by omega) hcl2
    omega
  have f1 : ∀ k, Fp p0 p1 c1 k ≤ 9 := fun k => Fp_le (sums c1 h1 v1)
  have f2 : ∀ k, Fp p0 p1 c2 k ≤ 9 := fun k => Fp_le (sums c2 h2 v2)
  have dv : ∀ x, all / x ≤ 729 := fun x => Nat.le_trans (Nat.div_le_self _ _) hall
  have m1 : ∀ k, p0 t * Fp p0 p1 c1 k * (all / Wh A c1) ≤ 9 * 9 * 729 := fun k => Nat.mul_le_mul (Nat.mul_le_mul d5 (f1 k)) (dv _)
  have m2 : ∀ k, p1 t * Fp p0 p1 c2 k * (all / Wh A c2) ≤ 9 * 9 * 729 := fun k => Nat.mul_le_mul (Nat.mul_le_mul d6 (f2 k)) (dv _)
  have t1 := Ta_le c1
  have t2 := Ta_le c2
  have m3 : (1 + Ta c1) * (p0 t * all) ≤ 2 * (9 * 729) := Nat.mul_le_mul (by omega) (Nat.mul_le_mul d5 hall)
  have m4 : (1 + Ta c2) * (p1 t * all) ≤ 2 * (9 * 729) := Nat.mul_le_mul (by omega) (Nat.mul_le_mul d6 hall)
  have t0 : 0 ≤ (t : Int) := by omega
  have t3 : (t : Int) < 3 := by omega
  generalize hh : rkC b0 b1 b2 c1 = h at r1 l31
  generalize hl : rkC b0 b1 b2 c2 = l at r2 l32
  generalize hW : rkC b0 b1 b2 30 = W at w1 w3 r1 r2 rW
  have hWn : W = 3 + 9 * ncB b0 b1 b2 3 := w1
  have hm : h * W ≤ 29 * 30 := Nat.mul_le_mul (by omega) rW
  have hcode : h * W + l < 100000 := by omega
  have hcode2 : h * W + l < 2147483648 := by omega
  have W0 : 0 < W := by omega
  have dq : (h * W + l) / W = h := by rw [Nat.mul_comm, Nat.mul_add_div W0, Nat.div_eq_of_lt r2, Nat.add_zero]
  have dr : (h * W + l) % W = l := by rw [Nat.mul_comm, Nat.mul_add_mod, Nat.mod_eq_of_lt r2]
  have W0i : ¬ (W : Int) = 0 := by omega
  obtain ⟨τ1, z1, z2, z3⟩ := m_z117 (k69 := k69) (k90 := k90) (l1 := (all : Int)) (l3 := found) (l4 := (U : Int)) (l6 := (V : Int)) (l8 := l8) (l9 := (t : Int)) (l10 := ((h * W + l : Nat) : Int)) 4 1000000 0 τ (by omega) (by omega) (fun k hk => absurd hk (Nat.not_lt_zero _))
  have C1 : CoM τ1 b0 b1 b2 p0 p1 A := ⟨by rw [z3 111 57 (by decide)]; exact q57, fun x hx hc => by rw [z3 132 _ (by decide), z3 113 _ (by decide), z3 113 _ (by decide), z3 113 _ (by decide)]; exact qt x hx hc⟩
  obtain ⟨τ3, e1, e2, e3, e4⟩ := m_addSide (o := fun _ => 0) C1 h1 v1 d5 hall (fun k hk => ⟨Nat.zero_le _, z2 k hk⟩)
  have C3 : CoM τ3 b0 b1 b2 p0 p1 A := ⟨by rw [e4 111 57 (by decide)]; exact C1.1, fun x hx hc => by rw [e4 132 _ (by decide), e4 113 _ (by decide), e4 113 _ (by decide), e4 113 _ (by decide)]; exact C1.2 x hx hc⟩
  obtain ⟨τ2, g1, g2, g3, g4⟩ := m_addSide (o := fun k => if k = 3 then (1 + Ta c1) * (p0 t * all) else p0 t * Fp p0 p1 c1 k * (all / Wh A c1)) C3 h2 v2 d6 hall (fun k hk => by
    by_cases hk3 : k = 3
    · subst hk3
      rw [if_pos rfl, e3, Nat.zero_add]
      exact ⟨by omega, rfl⟩
    · have := m1 k
      rw [if_neg hk3, e2 k (by omega), Nat.zero_add]
      exact ⟨by omega, rfl⟩)
  have o0 : τ2 134 0 = (Ok p0 p1 A all t c1 c2 0 : Int) := g2 0 (by decide)
  have o1 : τ2 134 1 = (Ok p0 p1 A all t c1 c2 1 : Int) := g2 1 (by decide)
  have o3 : τ2 134 3 = (O3 p0 p1 all t c1 c2 : Int) := g3
  have b0' : Ok p0 p1 A all t c1 c2 0 ≤ 2 * (9 * 9 * 729) := by
    have := m1 0
    have := m2 0
    unfold Ok
    omega
  have b1' : Ok p0 p1 A all t c1 c2 1 ≤ 2 * (9 * 9 * 729) := by
    have := m1 1
    have := m2 1
    unfold Ok
    omega
  have b3' : O3 p0 p1 all t c1 c2 ≤ 4 * (9 * 729) := by
    unfold O3
    omega
  generalize Ok p0 p1 A all t c1 c2 0 = x0 at o0 b0'
  generalize Ok p0 p1 A all t c1 c2 1 = x1 at o1 b1'
  generalize O3 p0 p1 all t c1 c2 = x3 at o3 b3'
  have s1 : x0 + x1 < 9223372036854775808 := by omega
  have s2 : x3 < 9223372036854775808 := by omega
  have M1 : x3 * V ≤ 1000000 * 1000000 := Nat.mul_le_mul (by omega) hV
  have M2 : U * (x0 + x1) ≤ 1000000 * 1000000 := Nat.mul_le_mul hU (by omega)
  have s3 : x3 * V < 9223372036854775808 := by omega
  have s4 : U * (x0 + x1) < 9223372036854775808 := by omega
  refine ⟨τ2, fun a q ha => by rw [g4 a q ha, e4 a q ha, z3 a q ha], ?_⟩
  have h57 : τ1 111 57 = (ncB b0 b1 b2 3 : Int) := C1.1
  have b268 : x0 + x1 ≠ 0 → f_M_best_268 k69 k90 (all : Int) l8 (t : Int) ((h * W + l : Nat) : Int) (h : Int) (l : Int) ((x0 + x1 : Nat) : Int) τ2 = _ := fun hz => m_268 (k69 := k69) (k90 := k90) (l1 := (all : Int)) (l8 := l8) (l9 := (t : Int)) (c1 := c1) (c2 := c2) o3 s2 s1 (by omega) hcode l31 l32
  have eW1 : w32 (9 * (ncB b0 b1 b2 3 : Int)) = ((9 * ncB b0 b1 b2 3 : Nat) : Int) := (w32_o (by omega) (by omega)).trans (by omega)
  have eW : w32 (3 + ((9 * ncB b0 b1 b2 3 : Nat) : Int)) = (W : Int) := (w32_o (by omega) (by omega)).trans (by omega)
  have so0 : f_M_sideOf (t : Int) 0 τ1 = some (p0 t : Int) := by
    rw [m_sideOf t0 t3 (by decide) (by decide), Int.toNat_natCast]
    exact congrArg some ((z3 113 _ (by decide)).trans d2)
  have so1 : f_M_sideOf (t : Int) 1 τ3 = some (p1 t : Int) := by
    rw [m_sideOf t0 t3 (by decide) (by decide), Int.toNat_natCast, show 6 + 8 * t + (1 : Int).toNat = 7 + 8 * t from by show 6 + 8 * t + 1 = 7 + 8 * t; omega]
    exact congrArg some ((e4 113 _ (by decide)).trans ((z3 113 _ (by decide)).trans d3))
  rw [c0n] at z1
  rw [hh] at e1
  rw [hl] at g1
  rw [z1]
  unfold mT117
  rw [h57, eW1, eW, if_neg W0i, xdiv_n hcode2, dq, xlet_s, if_neg W0i, xrem_n hcode2, dr, xlet_s, so0, xbR_s, e1, xbR_s, so1, xbR_s, g1, xbR_s, o0, o1, o3, w64_add s1, xlet_s]
  by_cases hz : x0 + x1 = 0
  · rw [if_pos (xlc_eq.mpr (by rw [hz]; rfl)), if_pos hz, w32_n1 hcode, xlet_s]
  · rw [if_neg (fun z => hz (by have := xlc_eq.mp z; omega)), if_neg hz]
    by_cases hq : x0 = x1
    · rw [if_pos (xlc_eq.mpr (by rw [hq]))]
      by_cases hf : found = -1
      · rw [if_pos hf, if_pos ⟨hq, Or.inl hf⟩, b268 hz]
      · rw [if_neg hf, w64_mul s3, w64_mul s4]
        by_cases hc : x3 * V < U * (x0 + x1)
        · rw [if_pos (xlc_lt.mpr (by omega)), if_pos ⟨hq, Or.inr hc⟩, b268 hz]
        · rw [if_neg (fun z => hc (by have := xlc_lt.mp z; omega)), if_neg (fun z => z.2.elim hf hc), w32_n1 hcode, xlet_s]
    · rw [if_neg (fun z => hq (by have := xlc_eq.mp z; omega)), if_neg (fun z => hq z.1), w32_n1 hcode, xlet_s]
