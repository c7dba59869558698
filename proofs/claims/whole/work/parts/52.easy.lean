/-! calls that tell what is kept -/
theorem w32_o {x : Int} (h1 : -2147483648 ≤ x) (h2 : x < 2147483648) : w32 x = x := w32_id ⟨h1, h2⟩
theorem simR0 {n : Nat} {fx : xSt → Option Int} {fm : xSt → Option (Int × xSt)} (h : ∀ σ, Inv0 σ → ∃ r σ2, fx σ = some r ∧ fm σ = some (r, σ2) ∧ Inv0 σ2 ∧ σ2 0 7 = σ 0 7) : SimR (InvN (n + 1)) (InvN n) fx fm := by
  intro σ hσ
  obtain ⟨r, σ2, h1, h2, h3, h4⟩ := h σ hσ.1
  have := hσ.2
  exact ⟨r, σ2, h1, h2, h3, by rw [h4]; omega⟩
theorem simW0 {n : Nat} {fx fm : xSt → Option (Int × xSt)} (h : ∀ σ, Inv0 σ → ∃ r σ1 σ2, fx σ = some (r, σ1) ∧ fm σ1 = some (r, σ2) ∧ Inv0 σ2 ∧ σ2 0 7 = σ 0 7) : SimW (InvN (n + 1)) (InvN n) fx fm := by
  intro σ hσ
  obtain ⟨r, σ1, σ2, h1, h2, h3, h4⟩ := h σ hσ.1
  have := hσ.2
  exact ⟨r, σ1, σ2, h1, h2, h3, by rw [h4]; omega⟩
theorem simT0 {n : Nat} {fx : xSt → Option (Option Int × xSt)} {fm : xSt → Option (Int × xSt)} (h : ∀ σ, Inv0 σ → ∃ r σ1 b σ2, fx σ = some (r, σ1) ∧ fm (wSt (r, σ1)) = some (b, σ2) ∧ (r = none ∧ σ2 111 0 = 1 ∨ σ2 111 0 = 0 ∧ ∃ v, r = some v ∧ b = v ∧ σ2 139 0 = v) ∧ Inv0 σ2 ∧ σ2 0 7 = σ 0 7) : SimT (InvN (n + 1)) (InvN n) fx fm := by
  intro σ hσ
  obtain ⟨r, σ1, b, σ2, h1, h2, h3, h4, h5⟩ := h σ hσ.1
  have := hσ.2
  refine ⟨r, σ1, b, σ2, h1, h2, ?_, h4, by rw [h5]; omega⟩
  rcases h3 with ⟨h6, h7⟩ | ⟨h6, h7⟩
  · exact Or.inl ⟨h6, by unfold f_M_thrown; rw [h7]⟩
  · exact Or.inr ⟨by unfold f_M_thrown; rw [h6], h7⟩
theorem inv_thr {σ : xSt} {v : Int} (h : Inv0 σ) : Inv0 (upS σ 111 0 v) := h.fr (L := [(111, [0])]) (Fr.up Fr.rf rfl rfl) rfl
theorem inv_out {σ : xSt} {v : Int} (h : Inv0 σ) : Inv0 (upS σ 139 0 v) := h.fr (L := [(139, [0])]) (Fr.up Fr.rf rfl rfl) rfl
theorem inv_wst {r : Option Int × xSt} (h : Inv0 r.2) : Inv0 (wSt r) := by
  obtain ⟨o, σ⟩ := r
  cases o with
  | none => exact h
  | some v => exact inv_out h
theorem wst_rd {r : Option Int × xSt} {a k : Nat} (ha : a ≠ 139) : wSt r a k = r.2 a k := by
  obtain ⟨o, σ⟩ := r
  cases o with
  | none => rfl
  | some v =>
    show (if a = 139 ∧ k = 0 then v else σ a k) = σ a k
    rw [if_neg (fun h => ha h.1)]
/-- the model's first call for its open coin -/
theorem lay_ok {σ : xSt} (h : Inv0 σ) : ∃ σ', f_M_lay σ = some σ' ∧ Fr s_M_lay σ σ' ∧ Inv0 σ' ∧ σ' 111 22 ≠ 0 ∧ σ' 113 2 = σ' 7 3 := by
  by_cases h0 : σ 111 22 = 0
  · obtain ⟨p1, ⟨pt, pt0⟩, ⟨pw, pw0⟩, ⟨ps, ps0⟩, p5, p6, p7, p8⟩ := h
    have hF : Fr s_M_lay σ (upS (upS σ 111 22 1) 113 2 (-1)) := Fr.up (Fr.up Fr.rf rfl rfl) rfl rfl
    obtain ⟨t0, e0⟩ := pt0 h0
    have n0 := pw0 h0
    have q0 := ps0 h0
    unfold TabR at pt
    obtain ⟨a1, a2, a3, a4, a5, a6, a7, a8, a9, a10, a11, a12, a13, a14⟩ := pt
    have hop : opM σ = -1 := by unfold opM; rw [if_pos h0]
    rw [hop] at a8 a9 a10 a13
    refine ⟨_, by unfold f_M_lay; rw [if_pos h0]; rfl, hF, ⟨p1.ag (hF.ag rfl), ⟨⟨a1, a2, a3, a4, a5, a6, a7, a8, a9, a10, a11, a12, fun t ht => ?_, fun e he => ?_⟩, fun h9 => absurd (show (1 : Int) = 0 from h9) (by decide)⟩, ⟨⟨pw.1, pw.2.1, pw.2.2.1, fun k hk => ?_, pw.2.2.2.2.1, fun hk => ?_⟩, fun h9 => absurd (show (1 : Int) = 0 from h9) (by decide)⟩, ⟨?_, fun h9 => absurd (show (1 : Int) = 0 from h9) (by decide)⟩, p5.ag (hF.ag rfl), p6.ag (hF.ag rfl), p7.ag (hF.ag rfl), p8.ag (hF.ag rfl)⟩, fun h9 => absurd (show (1 : Int) = 0 from h9) (by decide), a8.symm⟩
    · have : (t : Int) < σ 7 1 := ht
      omega
    · have : (e : Int) < σ 7 2 := he
      omega
    · have : (k : Int) < σ 16 0 := hk
      omega
    · have : 0 < σ 16 0 := hk
      omega
    · rcases ps.2.2 with ⟨z1, z2⟩ | ⟨z1, z2⟩
      · exact ⟨ps.1, ps.2.1, Or.inl ⟨z1, z2⟩⟩
      · omega
  · refine ⟨σ, by unfold f_M_lay; rw [if_neg h0], Fr.rf, h, h0, ?_⟩
    have h1 := h.2.1.1.2.2.2.2.2.2.2.1
    rw [h1]
    unfold opM
    rw [if_neg h0]
theorem x_isWithin (i n : Int) (σ : xSt) : f_X_isWithin i n σ = some (if 0 ≤ i ∧ i < n then 1 else 0) := by
  unfold f_X_isWithin
  (repeat' split) <;> first | rfl | (exfalso; omega)
theorem m_isIn (i a b : Int) (σ : xSt) : f_M_isIn i a b σ = some (if a ≤ i ∧ i ≤ b then 1 else 0) := by
  unfold f_M_isIn
  (repeat' split) <;> first | rfl | (exfalso; omega)
theorem x_hasThing {σ : xSt} (h3 : σ 7 1 ≤ 3) (p : Int) : f_Table_hasThing p σ = some (if 0 ≤ p ∧ p < σ 7 1 then 1 else 0) := by
  unfold f_Table_hasThing
  (repeat' split) <;> first | rfl | (exfalso; omega)
theorem x_hasEnd {σ : xSt} (h3 : σ 7 2 ≤ 6) (p : Int) : f_Table_hasEnd p σ = some (if 0 ≤ p ∧ p < σ 7 2 then 1 else 0) := by
  unfold f_Table_hasEnd
  (repeat' split) <;> first | rfl | (exfalso; omega)
theorem x_sidesOf {σ : xSt} (h3 : σ 7 1 ≤ 3) (p : Int) : f_Table_sidesOf p σ = some (if 0 ≤ p ∧ p < σ 7 1 then σ 10 p.toNat else 0) := by
  unfold f_Table_sidesOf
  rw [x_hasThing h3]
  simp only [xbR]
  (repeat' split) <;> first | rfl | (exfalso; omega)
theorem x_allParts {σ : xSt} (h3 : σ 7 1 ≤ 3) (p : Int) : f_Table_allParts p σ = some (if 0 ≤ p ∧ p < σ 7 1 then σ 11 p.toNat else 0) := by
  unfold f_Table_allParts
  rw [x_hasThing h3]
  simp only [xbR]
  (repeat' split) <;> first | rfl | (exfalso; omega)
theorem x_partsOf {σ : xSt} (h3 : σ 7 1 ≤ 3) (p s : Int) : f_Table_partsOf p s σ = some (if (0 ≤ p ∧ p < σ 7 1) ∧ 0 ≤ s ∧ s < 6 then σ 12 (6 * p.toNat + s.toNat) else 0) := by
  unfold f_Table_partsOf
  rw [x_hasThing h3]
  simp only [xbR, x_isWithin]
  by_cases hp : 0 ≤ p ∧ p < σ 7 1
  · rw [if_pos hp, if_neg (by decide)]
    by_cases hs : 0 ≤ s ∧ s < 6
    · rw [if_pos hs, if_neg (by decide), w32_o (x := p * 6) (by omega) (by omega), w32_o (by omega) (by omega), if_pos (by omega), if_pos ⟨hp, hs⟩, show (p * 6 + s).toNat = 6 * p.toNat + s.toNat by omega]
    · rw [if_neg hs, if_pos rfl, if_neg (fun z => hs z.2)]
  · rw [if_neg hp, if_pos rfl, if_neg (fun z => hp z.1)]
theorem m_sidesOf {σ : xSt} {p : Int} (h0 : 0 ≤ p) (h3 : p < 3) : f_M_sidesOf p σ = some (σ 113 (4 + 8 * p.toNat)) := by
  unfold f_M_sidesOf
  rw [w32_o (x := 8 * p) (by omega) (by omega), w32_o (by omega) (by omega), if_pos (by omega), show (4 + 8 * p).toNat = 4 + 8 * p.toNat by omega]
theorem m_partsOf {σ : xSt} {p : Int} (h0 : 0 ≤ p) (h3 : p < 3) : f_M_partsOf p σ = some (σ 113 (5 + 8 * p.toNat)) := by
  unfold f_M_partsOf
  rw [w32_o (x := 8 * p) (by omega) (by omega), w32_o (x := 4 + 8 * p) (by omega) (by omega), w32_o (by omega) (by omega), if_pos (by omega), show (4 + 8 * p + 1).toNat = 5 + 8 * p.toNat by omega]
theorem m_sideOf {σ : xSt} {p s : Int} (h0 : 0 ≤ p) (h3 : p < 3) (h4 : 0 ≤ s) (h5 : s < 6) : f_M_sideOf p s σ = some (σ 113 (6 + 8 * p.toNat + s.toNat)) := by
  unfold f_M_sideOf
  rw [w32_o (x := 8 * p) (by omega) (by omega), w32_o (x := 4 + 8 * p) (by omega) (by omega), w32_o (x := 4 + 8 * p + 2) (by omega) (by omega), w32_o (by omega) (by omega), if_pos (by omega), show (4 + 8 * p + 2 + s).toNat = 6 + 8 * p.toNat + s.toNat by omega]
theorem m_isThing {σ : xSt} (p : Int) : f_M_isThing p σ = some (if 0 ≤ p ∧ p < σ 113 0 then 1 else 0) := by
  unfold f_M_isThing f_M_things
  simp only [xbR]
  (repeat' split) <;> first | rfl | (exfalso; omega)
theorem m_isEnd {σ : xSt} (p : Int) : f_M_isEnd p σ = some (if 0 ≤ p ∧ p < σ 113 1 then 1 else 0) := by
  unfold f_M_isEnd f_M_ends
  simp only [xbR]
  (repeat' split) <;> first | rfl | (exfalso; omega)
/-- what the invariant says of a THING -/
theorem Inv0.op {σ : xSt} (h : Inv0 σ) : σ 7 3 = opM σ := h.2.1.1.2.2.2.2.2.2.2.1
theorem Inv0.th {σ : xSt} (h : Inv0 σ) {p : Int} (h0 : 0 ≤ p) (h1 : p < σ 7 1) : σ 10 p.toNat = σ 113 (4 + 8 * p.toNat) ∧ 2 ≤ σ 10 p.toNat ∧ σ 10 p.toNat ≤ 6 ∧ σ 11 p.toNat = σ 113 (5 + 8 * p.toNat) ∧ 0 ≤ σ 11 p.toNat ∧ σ 11 p.toNat ≤ 9 ∧
    (∀ s : Nat, (s : Int) < σ 10 p.toNat → σ 12 (6 * p.toNat + s) = σ 113 (6 + 8 * p.toNat + s) ∧ 0 ≤ σ 12 (6 * p.toNat + s) ∧ σ 12 (6 * p.toNat + s) ≤ 9) ∧
    (σ 9 p.toNat = 0 ∨ σ 9 p.toNat = 1 ∧ σ 10 p.toNat = 2) ∧ σ 9 p.toNat = σ 113 40 / (2 ^ p.toNat : Nat) % 2 ∧ NmR (σ 8 p.toNat) (σ 117 p.toNat) ∧
    (σ 7 3 = p → σ 11 p.toNat = 0 ∧ σ 12 (6 * p.toNat) = 0 ∧ σ 12 (6 * p.toNat + 1) = 0 ∧ σ 9 p.toNat = 1) ∧
    (σ 7 3 ≠ p → 1 ≤ σ 11 p.toNat ∧ σ 11 p.toNat = psum (fun s => σ 12 (6 * p.toNat + s)) (σ 10 p.toNat).toNat) := by
  have h2 : ThR σ 7 113 0 117 0 (opM σ) p.toNat := h.2.1.1.2.2.2.2.2.2.2.2.2.2.2.2.1 p.toNat (by omega)
  rw [← h.op] at h2
  obtain ⟨a1, a2, a3, a4, a5, a6, a7, a8, a9, a10, a11, a12⟩ := h2
  refine ⟨a1, a2, a3, a4, a5, a6, a7, a8, a9, ?_, fun z => a11 (by omega), fun z => a12 (by omega)⟩
  have e : 0 + p.toNat = p.toNat := Nat.zero_add _
  rw [e] at a10
  exact a10
theorem Inv0.en {σ : xSt} (h : Inv0 σ) {p : Int} (h0 : 0 ≤ p) (h1 : p < σ 7 2) : σ 14 p.toNat = σ 113 (28 + 2 * p.toNat) ∧ σ 15 p.toNat = σ 113 (29 + 2 * p.toNat) ∧ 0 ≤ σ 14 p.toNat ∧ σ 14 p.toNat ≤ σ 15 p.toNat ∧ σ 15 p.toNat ≤ 20 ∧ NmR (σ 13 p.toNat) (σ 117 (3 + p.toNat)) := h.2.1.1.2.2.2.2.2.2.2.2.2.2.2.2.2 p.toNat (by omega)
theorem Inv0.things {σ : xSt} (h : Inv0 σ) : σ 7 1 = σ 113 0 ∧ 0 ≤ σ 7 1 ∧ σ 7 1 ≤ 3 := ⟨h.2.1.1.2.1, h.2.1.1.2.2.1, h.2.1.1.2.2.2.1⟩
theorem Inv0.ends {σ : xSt} (h : Inv0 σ) : σ 7 2 = σ 113 1 ∧ 0 ≤ σ 7 2 ∧ σ 7 2 ≤ 6 := ⟨h.2.1.1.2.2.2.2.1, h.2.1.1.2.2.2.2.2.1, h.2.1.1.2.2.2.2.2.2.1⟩
theorem sim_fault {n : Nat} : SimR (InvN (n + 1)) (InvN n) f_X_fault f_M_fault := simR0 (fun σ h => ⟨σ 0 3, upS σ 111 0 0, rfl, by
  show some (σ 111 10, upS σ 111 0 0) = _
  rw [h.2.2.2.2.2.1.1], inv_thr h, rfl⟩)
theorem sim_took {n : Nat} : SimR (InvN (n + 1)) (InvN n) f_X_took f_M_took := simR0 (fun σ h => ⟨σ 102 1, upS σ 111 0 0, rfl, by
  show some (σ 111 48, upS σ 111 0 0) = _
  rw [h.2.2.2.2.2.1.2.2.2.2.2.1], inv_thr h, rfl⟩)
theorem sim_tosses {n : Nat} : SimR (InvN (n + 1)) (InvN n) f_X_tosses f_M_tosses := simR0 (fun σ h => ⟨σ 0 18, upS σ 111 0 0, rfl, by
  show some (σ 111 69, upS σ 111 0 0) = _
  rw [h.2.2.2.2.2.1.2.2.2.2.2.2.1], inv_thr h, rfl⟩)
theorem upS_rd (σ : xSt) (a k : Nat) (v : Int) (b j : Nat) : upS σ a k v b j = if b = a ∧ j = k then v else σ b j := rfl
theorem sim_judged {n : Nat} : ∀ p1 : Int, in32 p1 → SimR (InvN (n + 1)) (InvN n) (f_X_judged p1) (f_M_judged p1) := by
  intro p1 _
  refine simR0 (fun σ h => ?_)
  have hj := h.2.2.2.2.2.1.2.2.2.1
  unfold f_X_judged f_M_judged f_Judge_keptAt
  simp only [x_isWithin, m_isIn]
  by_cases hp : 0 ≤ p1 ∧ p1 < 4
  · rcases hj with ⟨h1, h2⟩ | ⟨h1, h2⟩
    · refine ⟨-1, upS σ 111 0 0, ?_, ?_, inv_thr h, rfl⟩
      · simp (disch := omega) only [if_pos, if_neg, if_true, if_false, xbR, xbW, xlet, upS_rd]
      · simp (disch := omega) only [if_pos, if_neg, if_true, if_false, xbR, xbW, xlet, upS_rd]
        rw [h2 p1.toNat (by omega)]
    · refine ⟨σ 124 p1.toNat, upS σ 111 0 0, ?_, ?_, inv_thr h, rfl⟩
      · simp (disch := omega) only [if_pos, if_neg, if_true, if_false, xbR, xbW, xlet, upS_rd]
        rw [h2 p1.toNat (by omega)]
      · simp (disch := omega) only [if_pos, if_neg, if_true, if_false, xbR, xbW, xlet, upS_rd]
  · refine ⟨-1, upS σ 111 0 0, ?_, ?_, inv_thr h, rfl⟩
    · simp (disch := omega) only [if_pos, if_neg, if_true, if_false, xbR, xbW, xlet, upS_rd]
      rcases hj with ⟨h1, h2⟩ | ⟨h1, h2⟩ <;> simp (disch := omega) only [if_pos, if_neg, if_true, if_false, xbR, xbW, xlet, upS_rd]
    · simp (disch := omega) only [if_pos, if_neg, if_true, if_false, xbR, xbW, xlet, upS_rd]
theorem sim_bit {n : Nat} : ∀ p1 : Int, in32 p1 → SimR (InvN (n + 1)) (InvN n) (f_X_bit p1) (f_M_bit_ p1) := by
  intro p1 _
  refine simR0 (fun σ h => ?_)
  have hj := h.2.2.2.2.2.1.2.2.2.2.1
  unfold f_X_bit f_M_bit_ f_Bits_at
  simp only [x_isWithin]
  rcases hj with ⟨h1, h2⟩ | ⟨h1, h2, h3, h4, h5⟩
  · refine ⟨-1, upS σ 111 0 0, ?_, ?_, inv_thr h, rfl⟩
    · simp (disch := omega) only [if_pos, if_neg, if_true, if_false, xbR, xbW, xlet, upS_rd]
    · simp (disch := omega) only [if_pos, if_neg, if_true, if_false, xbR, xbW, xlet, upS_rd]
  · by_cases hp : 0 ≤ p1 ∧ p1 < σ 99 1
    · refine ⟨σ 100 p1.toNat, upS σ 111 0 0, ?_, ?_, inv_thr h, rfl⟩
      · simp (disch := omega) only [if_pos, if_neg, if_true, if_false, xbR, xbW, xlet, upS_rd]
      · simp (disch := omega) only [if_pos, if_neg, if_true, if_false, xbR, xbW, xlet, upS_rd]
        rw [h5 p1.toNat (by omega)]
    · refine ⟨-1, upS σ 111 0 0, ?_, ?_, inv_thr h, rfl⟩
      · simp (disch := omega) only [if_pos, if_neg, if_true, if_false, xbR, xbW, xlet, upS_rd]
      · by_cases h0 : p1 < 0
        · simp (disch := omega) only [if_pos, if_neg, if_true, if_false, xbR, xbW, xlet, upS_rd]
        · simp (disch := omega) only [if_pos, if_neg, if_true, if_false, xbR, xbW, xlet, upS_rd]
theorem sim_byteAt {n : Nat} : ∀ p1 : Int, in32 p1 → SimR (InvN (n + 1)) (InvN n) (f_X_byteAt p1) (f_M_byteAt p1) := by
  intro p1 _
  refine simR0 (fun σ h => ?_)
  obtain ⟨h2, h3, h4, h5⟩ := h.2.2.2.2.2.1.2.2.2.2.2.2.2
  unfold f_X_byteAt f_M_byteAt
  simp only [x_isWithin]
  by_cases hp : 0 ≤ p1 ∧ p1 < σ 0 17
  · refine ⟨σ 110 p1.toNat, upS σ 111 0 0, ?_, ?_, inv_thr h, rfl⟩
    · simp (disch := omega) only [if_pos, if_neg, if_true, if_false, xbR, xbW, xlet, upS_rd]
    · simp (disch := omega) only [if_pos, if_neg, if_true, if_false, xbR, xbW, xlet, upS_rd]
      rw [h5 p1.toNat (by omega)]
  · refine ⟨-1, upS σ 111 0 0, ?_, ?_, inv_thr h, rfl⟩
    · simp (disch := omega) only [if_pos, if_neg, if_true, if_false, xbR, xbW, xlet, upS_rd]
    · by_cases h0 : p1 < 0
      · simp (disch := omega) only [if_pos, if_neg, if_true, if_false, xbR, xbW, xlet, upS_rd]
      · simp (disch := omega) only [if_pos, if_neg, if_true, if_false, xbR, xbW, xlet, upS_rd]
theorem sim_thing {n : Nat} : ∀ p1 p2 : Int, in32 p1 → in32 p2 → SimT (InvN (n + 1)) (InvN n) (f_X_thing p1 p2) (f_M_thing p1 p2) := by
  intro p1 p2 _ _
  refine simT0 (fun σ h => ?_)
  obtain ⟨ht, ht0, ht3⟩ := h.things
  have hx : ∃ r, f_X_thing p1 p2 σ = some (r, σ) ∧ ((r = none ∧ ¬ ((0 ≤ p1 ∧ p1 < σ 7 1) ∧ 0 ≤ p2 ∧ p2 ≤ 2)) ∨ ((0 ≤ p1 ∧ p1 < σ 7 1) ∧ (0 ≤ p2 ∧ p2 ≤ 2) ∧ r = some (if p2 = 0 then σ 10 p1.toNat else if p2 = 1 then σ 11 p1.toNat else if p1 = σ 7 3 then 1 else 0))) := by
    unfold f_X_thing
    simp only [x_hasThing ht3, x_isWithin, x_sidesOf ht3, x_allParts ht3]
    by_cases hp : 0 ≤ p1 ∧ p1 < σ 7 1
    · by_cases hq : 0 ≤ p2 ∧ p2 < 3
      · refine ⟨_, ?_, Or.inr ⟨hp, by omega, rfl⟩⟩
        simp (disch := omega) only [if_pos, if_neg, if_true, if_false, xbR, xbW, xlet, upS_rd]
        (repeat' split) <;> rfl
      · refine ⟨none, ?_, Or.inl ⟨rfl, by omega⟩⟩
        simp (disch := omega) only [if_pos, if_neg, if_true, if_false, xbR, xbW, xlet, upS_rd]
    · refine ⟨none, ?_, Or.inl ⟨rfl, by omega⟩⟩
      simp (disch := omega) only [if_pos, if_neg, if_true, if_false, xbR, xbW, xlet, upS_rd]
  obtain ⟨r, hx, hr⟩ := hx
  have hw : Inv0 (wSt (r, σ)) := inv_wst (r := (r, σ)) h
  obtain ⟨σ1, hl, hF, hi, -, hop⟩ := lay_ok hw
  have e7 : ∀ k, σ1 7 k = σ 7 k := fun k => (hF 7 k rfl).trans (wst_rd (by decide))
  have e10 : ∀ k, σ1 10 k = σ 10 k := fun k => (hF 10 k rfl).trans (wst_rd (by decide))
  have e11 : ∀ k, σ1 11 k = σ 11 k := fun k => (hF 11 k rfl).trans (wst_rd (by decide))
  have e139 : ∀ k, σ1 139 k = wSt (r, σ) 139 k := fun k => hF 139 k rfl
  have e0 : σ1 0 7 = σ 0 7 := (hF 0 7 rfl).trans (wst_rd (by decide))
  obtain ⟨ht1, -, -⟩ := hi.things
  have e71 := e7 1
  rcases hr with ⟨rfl, hn⟩ | ⟨hp, hq, rfl⟩
  · refine ⟨none, σ, 0, upS σ1 111 0 1, hx, ?_, Or.inl ⟨rfl, rfl⟩, inv_thr hi, e0⟩
    unfold f_M_thing f_M_thing_21 f_M_refuse
    simp only [hl, m_isThing, m_isIn]
    by_cases hp : 0 ≤ p1 ∧ p1 < σ 7 1
    · simp (disch := omega) only [if_pos, if_neg, if_true, if_false, xbR, xbW, xlet, upS_rd]
    · simp (disch := omega) only [if_pos, if_neg, if_true, if_false, xbR, xbW, xlet, upS_rd]
  · have hth := hi.th hp.1 (by rw [e7]; exact hp.2)
    refine ⟨_, σ, _, upS σ1 111 0 0, hx, ?_, Or.inr ⟨rfl, _, rfl, rfl, ?_⟩, inv_thr hi, e0⟩
    · unfold f_M_thing
      simp only [hl, m_isThing, m_isIn, m_sidesOf hp.1 (show p1 < 3 by omega), m_partsOf hp.1 (show p1 < 3 by omega)]
      simp (disch := omega) only [if_pos, if_neg, if_true, if_false, xbR, xbW, xlet, upS_rd]
      rw [hop, ← hth.1, ← hth.2.2.2.1, e10, e11, e7 3]
      (repeat' split) <;> first | rfl | (exfalso; omega)
    · show σ1 139 0 = _
      rw [e139]
      rfl
