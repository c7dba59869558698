/-! weights: the model's walk -/
theorem w64_addr {a b : Int} : w64 (a + w64 b) = w64 (a + b) := by
  rw [Int.add_comm, w64_addw, Int.add_comm]
theorem nsum_const {g : Nat → Nat} {a : Nat} : ∀ b : Nat, a ≤ b → (∀ j : Nat, a ≤ j → j < b → g j = 0) → nsum g b = nsum g a := by
  intro b
  induction b with
  | zero => exact fun h _ => by rw [show a = 0 by omega]
  | succ b ih =>
    intro h hg
    by_cases hz : a = b + 1
    · rw [hz]
    · have e : nsum g (b + 1) = nsum g b + g b := rfl
      rw [e, hg b (by omega) (by omega), Nat.add_zero]
      exact ih (by omega) (fun j h1 h2 => hg j h1 (by omega))
/-- nothing comes below a NODE that weighs nothing -/
theorem zero_sub {G : xSt} {hd tl wh al d k e m : Nat} {X H T : Nat → Nat} (hS : Sub G 7 16 d k e m) (hR : ∀ j : Nat, j < e → XRec G hd tl wh al X H T j) (h0 : X k = 0) : ∀ j : Nat, k ≤ j → j < e → X j = 0 := by
  have key : ∀ j : Nat, ∀ i : Nat, i ≤ j → k ≤ i → i < e → X i = 0 := by
    intro j
    induction j with
    | zero =>
      intro i h1 h2 h3
      have : i = k := by omega
      rw [this]
      exact h0
    | succ j ih =>
      intro i h1 h2 h3
      by_cases hz : i = k
      · rw [hz]
        exact h0
      · obtain ⟨p, s, q1, q2, q3, q4, q5, q6, q7, q8⟩ := Sub_par d k e m i hS (by omega) h3
        obtain ⟨t, ht⟩ : ∃ t : Nat, G 18 p = (t : Int) := ⟨(G 18 p).toNat, by have q4 : 0 ≤ G 18 p := q4; omega⟩
        have hx := ((hR i h3).2 (by omega) p s t q7 q8 ht).1
        rw [hx, ih p (by omega) q1 (by omega), Nat.zero_div, Nat.zero_mul]
  exact fun j h1 h2 => key j j (Nat.le_refl j) h1 h2
def gI (G : xSt) (X : Nat → Nat) (i j : Nat) : Nat := if i < 6 then gE G X i j else gA G X j
theorem gI_leaf0 {G : xSt} {X : Nat → Nat} {k i0 : Nat} (h1 : G 17 k = 0) (h2 : G 18 k = (i0 : Int)) (h3 : i0 < 6) (i : Nat) : gI G X i k = if i = i0 then X k else 0 := by
  unfold gI gE gA
  by_cases h6 : i < 6
  · rw [if_pos h6]
    by_cases hz : i = i0
    · rw [if_pos hz, if_pos ⟨h1, by rw [h2, hz]⟩]
    · rw [if_neg hz, if_neg (fun z => hz (by have := z.2; omega))]
  · rw [if_neg h6, if_neg (by omega), if_neg (by omega)]
theorem gI_leaf1 {G : xSt} {X : Nat → Nat} {k : Nat} (h1 : G 17 k = 1) (i : Nat) (hi : i < 7) : gI G X i k = if i = 6 then X k else 0 := by
  unfold gI gE gA
  by_cases h6 : i < 6
  · rw [if_pos h6, if_neg (by omega), if_neg (by omega)]
  · rw [if_neg h6, if_pos h1, if_pos (by omega)]
theorem gI_th {G : xSt} {X : Nat → Nat} {k : Nat} (h1 : G 17 k = 2) (i : Nat) : gI G X i k = 0 := by
  unfold gI gE gA
  by_cases h6 : i < 6
  · rw [if_pos h6, if_neg (by omega)]
  · rw [if_neg h6, if_neg (by omega)]
/-- the model's bend -/
def MdB (G : xSt) (hd wh : Nat) (τ : xSt) : Prop := (∀ q, τ 113 q = G 113 q) ∧ τ 122 0 = (hd : Int) ∧ τ 122 1 = (wh : Int)
theorem opG {G : xSt} (h : Inv0 G) (h22 : G 111 22 ≠ 0) : G 113 2 = G 7 3 := by
  have h1 := h.op
  unfold opM at h1
  rw [if_neg h22] at h1
  exact h1.symm
theorem m_woO {G τ : xSt} (h : Inv0 G) (h22 : G 111 22 ≠ 0) {hd wh t : Nat} (hs : MdB G hd wh τ) (ht : (t : Int) < G 7 1) : f_M_allOf (t : Int) τ = some (wo G wh t : Int) := by
  obtain ⟨s1, s2, s3⟩ := hs
  have h3 := h.things.2.2
  have q := h.th (p := (t : Int)) (by omega) ht
  rw [Int.toNat_natCast] at q
  obtain ⟨-, -, -, q4, q5, -⟩ := q
  unfold f_M_allOf wo
  rw [s1, opG h h22]
  by_cases ho : (t : Int) = G 7 3
  · rw [if_pos ho, if_pos ho, s3]
  · rw [if_neg ho, if_neg ho, m_partsOf (by omega) (by omega), xbR_s, Int.toNat_natCast, s1, ← q4]
    congr 1
    omega
theorem m_paO {G τ : xSt} (h : Inv0 G) (h22 : G 111 22 ≠ 0) {hd wh t s : Nat} (hs : MdB G hd wh τ) (hw : hd ≤ wh) (hw9 : wh ≤ 9) (ht : (t : Int) < G 7 1) (hsd : (s : Int) < G 10 t) : f_M_partOf (t : Int) (s : Int) τ = some (pa G hd (wh - hd) t s : Int) := by
  obtain ⟨s1, s2, s3⟩ := hs
  have h3 := h.things.2.2
  have q := h.th (p := (t : Int)) (by omega) ht
  rw [Int.toNat_natCast] at q
  obtain ⟨-, -, q3, -, -, -, q7, -⟩ := q
  have r := q7 s hsd
  unfold f_M_partOf pa
  rw [s1, opG h h22]
  by_cases ho : (t : Int) = G 7 3
  · rw [if_pos ho, if_pos ho]
    by_cases hz : s = 0
    · rw [if_pos (by omega), if_pos hz, s2]
    · have e : w32 ((wh : Int) - (hd : Int)) = ((wh - hd : Nat) : Int) := (w32_o (by omega) (by omega)).trans (by omega)
      rw [if_neg (by omega), if_neg hz, s2, s3, e]
  · rw [if_neg ho, if_neg ho, m_sideOf (by omega) (by omega) (by omega) (by omega), xbR_s, Int.toNat_natCast, Int.toNat_natCast, s1, ← r.1]
    congr 1
    omega
/-- all SIDES of a THING have all its parts -/
def HSum (G : xSt) (hd tl wh : Nat) : Prop := ∀ t : Nat, (t : Int) < G 7 1 → nsum (pa G hd tl t) (G 10 t).toNat = wo G wh t
theorem hsum_ok {G : xSt} (h : Inv0 G) {hd tl wh : Nat} (hb : hd + tl = wh ∨ ∀ t : Nat, (t : Int) < G 7 1 → (t : Int) ≠ G 7 3) : HSum G hd tl wh := by
  intro t ht
  have h3 := h.things.2.2
  have q := h.th (p := (t : Int)) (by omega) ht
  rw [Int.toNat_natCast] at q
  obtain ⟨-, q2, q3, -, q5, q6, q7, q8, -, -, q11, q12⟩ := q
  by_cases ho : (t : Int) = G 7 3
  · have h9 := (q11 ho.symm).2.2.2
    have s2 : G 10 t = 2 := by
      rcases q8 with z | ⟨-, z⟩
      · omega
      · exact z
    rcases hb with hb | hb
    · rw [s2]
      show 0 + pa G hd tl t 0 + pa G hd tl t 1 = _
      unfold pa wo
      rw [if_pos ho, if_pos ho, if_pos ho, if_pos rfl, if_neg (by decide)]
      omega
    · exact absurd ho (hb t ht)
  · obtain ⟨d1, d2⟩ := q12 (fun z => ho z.symm)
    have e : ∀ i : Nat, i < (G 10 t).toNat → G 12 (6 * t + i) = (pa G hd tl t i : Int) := fun i hi => by
      have := (q7 i (by omega)).2
      unfold pa
      rw [if_neg ho]
      omega
    have e2 := nsum_psum (K := pa G hd tl t) (f := fun s => G 12 (6 * t + s)) (G 10 t).toNat e
    unfold wo
    rw [if_neg ho, d2, e2, Int.toNat_natCast]
/-- the model's sums -/
def MdS (a : Nat → Nat) (b : Nat) (τ : xSt) : Prop := (∀ i : Nat, i < 7 → τ 121 i = w64 (a i : Int)) ∧ τ 111 30 = w64 (b : Int)
def frW (τ τ' : xSt) : Prop := ∀ c q, c ≠ 121 → (c = 111 → q ≠ 30) → τ' c q = τ c q
/-- what the model's walk of NODES k to e adds -/
def MWk (G : xSt) (hd wh C d k e : Nat) (X : Nat → Nat) : Prop := ∀ (fu w dp : Nat) (a : Nat → Nat) (b : Nat) (τ : xSt), d < fu → C * w = X k → dp + d ≤ 6 → MdB G hd wh τ → MdS a b τ →
  ∃ (τ' : xSt) (E : Nat → Nat) (S : Nat), g_M_weigh fu (k : Int) (w : Int) (dp : Int) τ = some τ' ∧ MdS (fun i => a i + E i) (b + S) τ' ∧ frW τ τ' ∧ (∀ i : Nat, i < 7 → nsum (gI G X i) k + C * E i = nsum (gI G X i) e) ∧ nsum (gT G X) k + C * S = nsum (gT G X) e + dp * X k
theorem m_w32 {q : Int → Int → Int → xSt → Option xSt} {w dp i0 : Nat} {a : Nat → Nat} {b : Nat} {τ : xSt} (hi : i0 < 7) (hs : MdS a b τ) : ∃ τ', f_M_weigh_32 q (w : Int) (dp : Int) (i0 : Int) τ = some τ' ∧ MdS (fun i => a i + (if i = i0 then w else 0)) (b + w * dp) τ' ∧ frW τ τ' := by
  obtain ⟨s1, s2⟩ := hs
  have b8 : 0 ≤ (i0 : Int) ∧ (i0 : Int) < 8 := by omega
  refine ⟨upS (upS τ 121 i0 (w64 ((a i0 + w : Nat) : Int))) 111 30 (w64 ((b + w * dp : Nat) : Int)), ?_, ⟨fun i hi2 => ?_, ?_⟩, fun c q h1 h2 => ?_⟩
  · unfold f_M_weigh_32
    rw [if_pos b8, if_pos b8, Int.toNat_natCast, s1 i0 hi, w64_addw, ← Int.natCast_add, xlet_s, upS_ne (by decide), s2, w64_addr, w64_addw, ← Int.natCast_mul, ← Int.natCast_add, xlet_s]
  · show _ = w64 ((a i + (if i = i0 then w else 0) : Nat) : Int)
    rw [upS_ne (by decide)]
    by_cases hz : i = i0
    · rw [hz, upS_eq, if_pos rfl]
    · rw [upS_nk hz, if_neg hz, Nat.add_zero]
      exact s1 i hi2
  · rw [upS_eq]
  · rw [upS_rd, if_neg (fun z => h2 z.1 z.2), upS_ne h1]
theorem mw_leaf {G : xSt} (h : Inv0 G) {hd wh C d k : Nat} {X : Nat → Nat} (hk : (k : Int) < G 16 0) (hs : G 17 k ≠ 2) : MWk G hd wh C d k (k + 1) X := by
  intro fu w dp a b τ hd2 hC hdp hB hS
  obtain ⟨fu, rfl⟩ : ∃ n2, fu = n2 + 1 := ⟨fu - 1, by omega⟩
  have h80 := h.nodes
  have hte := h.ends
  have nd := h.nd (p := (k : Int)) (by omega) hk
  rw [Int.toNat_natCast] at nd
  have so : f_M_sortOf (k : Int) τ = some (G 17 k) := by rw [m_sortOf (by omega) (by omega), Int.toNat_natCast, hB.1, ← nd.1]
  have wof : f_M_whichOf (k : Int) τ = some (G 18 k) := by rw [m_whichOf (by omega) (by omega), Int.toNat_natCast, hB.1, ← nd.2.1]
  have sI : ∀ i, nsum (gI G X i) (k + 1) = nsum (gI G X i) k + gI G X i k := fun _ => rfl
  have sT : nsum (gT G X) (k + 1) = nsum (gT G X) k + gT G X k := rfl
  have zT : gT G X k = 0 := by unfold gT; rw [if_neg hs]
  have cw : C * (w * dp) = dp * X k := by rw [← Nat.mul_assoc, hC, Nat.mul_comm]
  rcases nd.2.2.2.2 with ⟨d1, d2, d3⟩ | ⟨d1, -⟩ | ⟨d1, -⟩
  · obtain ⟨i0, hi0⟩ : ∃ i : Nat, G 18 k = (i : Int) := ⟨(G 18 k).toNat, by omega⟩
    have i6 : i0 < 6 := by omega
    obtain ⟨τ', t1, t2, t3⟩ := m_w32 (q := g_M_weigh fu) (w := w) (dp := dp) (i0 := i0) (by omega) hS
    refine ⟨τ', fun i => if i = i0 then w else 0, w * dp, ?_, t2, t3, fun i hi => ?_, by rw [sT, zT, Nat.add_zero, cw]⟩
    · show f0_M_weigh (g_M_weigh fu) (k : Int) (w : Int) (dp : Int) τ = _
      unfold f0_M_weigh
      rw [so, xbR_s, if_pos (by omega), if_pos d1, wof, xbR_s, hi0, t1]
    · show nsum (gI G X i) k + C * (if i = i0 then w else 0) = nsum (gI G X i) (k + 1)
      rw [sI, gI_leaf0 d1 hi0 i6 i]
      by_cases hz : i = i0
      · rw [if_pos hz, if_pos hz, hC]
      · rw [if_neg hz, if_neg hz, Nat.mul_zero]
  · obtain ⟨τ', t1, t2, t3⟩ := m_w32 (q := g_M_weigh fu) (w := w) (dp := dp) (i0 := 6) (by decide) hS
    refine ⟨τ', fun i => if i = 6 then w else 0, w * dp, ?_, t2, t3, fun i hi => ?_, by rw [sT, zT, Nat.add_zero, cw]⟩
    · show f0_M_weigh (g_M_weigh fu) (k : Int) (w : Int) (dp : Int) τ = _
      have t1 : f_M_weigh_32 (g_M_weigh fu) (w : Int) (dp : Int) 6 τ = some τ' := t1
      unfold f0_M_weigh
      rw [so, xbR_s, if_pos (by omega), if_neg (by omega), t1]
    · show nsum (gI G X i) k + C * (if i = 6 then w else 0) = nsum (gI G X i) (k + 1)
      rw [sI, gI_leaf1 d1 i hi]
      by_cases hz : i = 6
      · rw [if_pos hz, if_pos hz, hC]
      · rw [if_neg hz, if_neg hz, Nat.mul_zero]
  · exact absurd d1 hs
