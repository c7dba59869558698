/-! SENTENCES read in lock-step: leaves -/
section
variable {σ0 τ0 : xSt} {d : Nat → Int} {n c : Nat} {en : Int}
theorem plain_lock {i O S W : Nat} {σ τ : xSt} (hR : SnR σ0 τ0 d n c i O S W σ τ) (hS : S + 1 ≤ 2 * O) {p r : Int} (hpr : p = 4 ∧ r = 60 ∨ p = 5 ∧ r = 61) : ∃ σ' τ', f_Sentence_add p 0 0 σ = some (1, σ') ∧ f_M_saysOne r 0 0 0 τ = some ((S : Int), τ') ∧ SnF σ0 τ0 d n c en O S W σ τ σ' (upS τ' 111 74 (S : Int)) := by
  obtain ⟨σ3, τ3, w1, w2, w3, w4, ⟨w5, w6, w7⟩, w8, w9, w10, w11, w12, w13⟩ := add_lock hR hS p 0 0 r 0 0 0
  have f : ∀ q, (upS τ3 111 74 (S : Int)) 138 q = τ3 138 q := fun q => upS_ne (by decide)
  refine ⟨σ3, τ3, w1, w2, i, w3.top _, upS_eq, ⟨w4.1, fun q hq => (f q).trans (w4.2 q hq)⟩, SnA.leaf ?_⟩
  rw [f, f, f, f, w5, w8]
  rcases hpr with ⟨z1, z2⟩ | ⟨z1, z2⟩
  · exact Or.inr (Or.inl ⟨z1, z2⟩)
  · exact Or.inr (Or.inr (Or.inl ⟨z1, z2⟩))
theorem named_lock {G : xSt} (hG : Inv0 G) (hX : ∀ a q, 7 ≤ a → a ≤ 15 → σ0 a q = G a q) (h113 : ∀ q, τ0 113 q = G 113 q) (h117 : ∀ q, τ0 117 q = G 117 q) (hen : en = G 7 2) {i O S W : Nat} {σ τ : xSt} (hR : SnR σ0 τ0 d n c i O S W σ τ) (hS : S + 1 ≤ 2 * O) :
    (∃ σ' τ', f_Sentence_readLike σ = some (1, σ') ∧ f_M_readNamed 9 τ = some (1, τ') ∧ SnF σ0 τ0 d n c en O S W σ τ σ' τ') ∨ (∃ σ' τ', f_Sentence_readLike σ = some (0, σ') ∧ f_M_readNamed 9 τ = some (0, τ') ∧ SnB σ0 τ0 σ' τ') := by
  obtain ⟨hL, h9, h10, kX, kM, o1, o2, s1, s2, w1, hO, hSO⟩ := id hR
  have e1 : ∀ a q, 7 ≤ a → a ≤ 15 → σ a q = G a q := fun a q z1 z2 => (kX a q (by omega) (by unfold snW; omega)).trans (hX a q z1 z2)
  have e2 : ∀ q, τ 113 q = G 113 q := fun q => (kM 113 q (fun z => by omega) (by unfold snV; omega)).trans (h113 q)
  have e3 : ∀ q, τ 117 q = G 117 q := fun q => (kM 117 q (fun z => by omega) (by unfold snV; omega)).trans (h117 q)
  unfold f_Sentence_readLike f_M_readNamed
  rcases hL.hand.name with ⟨n1, n2, n3⟩ | ⟨n1, n2⟩
  · have s4 := nam1 n1
    obtain ⟨q1, e, q2, q3, q4⟩ := end_find hG e1 e2 e3 n3
    have h10' : ¬ (1 : Int) = 0 := by decide
    rw [n1, xbR_s, n2, xbR_s, if_neg h10', if_neg h10', q2, xbR_s, q1, xbR_s, q3, xbR_s]
    by_cases he : e = -1
    · obtain ⟨σ', τ', a1, a2, a3, a4, a5, a6⟩ := hL.hand.fail h9 (p := 3) (fun z => by
        have := namM1 n2
        omega)
      refine Or.inr ⟨σ', τ', ?_, ?_, a3, kX.fail a5, kM.bad a6⟩
      · rw [if_pos he, a1, xbW_s]; rfl
      · rw [if_pos he, a2, xbW_s]; rfl
    · rw [if_neg he, if_neg he]
      have e59 : w32 (50 + 9) = 59 := by decide +kernel
      -- the model: said, then on; the class: on, then added
      obtain ⟨σz, τa, z1, z2, z3, z4, -, z5, z6, z7, z8, z9, z10⟩ := add_lock hR hS 3 0 e 59 e 0 0
      have fa : ∀ a q, (a = 111 → q ≠ 71 ∧ q ≠ 74) → a ≠ 138 → (upS τa 111 74 (S : Int)) a q = τ a q := fun a q y1 y2 => by
        rw [upS_rd, if_neg (fun y => (y1 y.1).2 y.2), z10 a q (fun y => (y1 y).1) y2]
      have hLa : LR d n 200 c i σ (upS τa 111 74 (S : Int)) := hL.cg (fun _ _ _ _ => rfl) (fun q y1 y2 => fa 111 q (fun _ => by omega) (by decide)) (fun q => fa 112 q (fun y => absurd y (by decide)) (by decide))
      obtain ⟨σ1, τ1, b1, b2, b3, b4, b5⟩ := hLa.go1 (by omega) (by omega)
      have t1 : σ1 42 1 = (S : Int) := by rw [b4 42 1 (fun y => absurd y (by decide))]; exact s1
      have hadd := x_sadd t1 (by omega) 3 0 e
      obtain ⟨σ2, hσ2⟩ : ∃ σ2, σ2 = upS (upS (upS (upS σ1 43 S 3) 44 S 0) 45 S e) 42 1 ((S + 1 : Nat) : Int) := ⟨_, rfl⟩
      rw [← hσ2] at hadd
      have f2 : ∀ a q, (a < 42 ∨ 45 < a ∨ a = 42 ∧ q ≠ 1) → σ2 a q = σ1 a q := fun a q z => by
        rw [hσ2, upS_rd, if_neg (by omega), upS_ne (by omega), upS_ne (by omega), upS_ne (by omega)]
      have g138 : ∀ q, τ1 138 q = τa 138 q := fun q => by rw [b5 138 q (fun y => absurd y (by decide)), upS_ne (by decide)]
      have g111 : ∀ q, (q < 3 ∨ 13 < q ∨ q = 10) → q ≠ 74 → τ1 111 q = τa 111 q := fun q y1 y2 => by rw [b5 111 q (fun _ => by omega), upS_nk y2]
      refine Or.inl ⟨σ2, τ1, ?_, ?_, i + 1, ⟨?_, ?_, ?_, ?_, ?_, ?_, ?_, ?_, ?_, ?_, hO, hS⟩, ?_, ⟨fun k hk => ⟨?_, ?_, ?_⟩, fun q hq => by rw [g138]; exact z4.2 q hq⟩, SnA.leaf (Or.inl ⟨?_, ?_, ?_, ?_, ?_⟩)⟩
      · rw [b1, xbR_s, hadd, xbW_s]; rfl
      · rw [e59, z2, xbW_s, xlet_s, b2, xbR_s]
      · exact b3.cg (fun a k y1 y2 => f2 a k (by omega)) (fun _ _ _ => rfl) (fun _ => rfl)
      · rw [f2 2 9 (by decide), b4 2 9 (fun _ => by decide)]; exact h9
      · rw [g111 10 (by decide) (by decide), z10 111 10 (fun _ => by decide) (by decide)]; exact h10
      · exact (kX.step b4).st (fun a q y1 y2 => f2 a q (by unfold snW at y2; omega))
      · exact (kM.st (fun a q y1 y2 => fa a q (fun y => ⟨fun x => y2 (Or.inr ⟨y, by omega, by omega⟩), fun x => y2 (Or.inr ⟨y, by omega, by omega⟩)⟩) (fun y => y2 (Or.inl y)))).go b5
      · rw [f2 42 0 (Or.inr (Or.inr ⟨rfl, by decide⟩)), b4 42 0 (fun y => absurd y (by decide))]; exact o1
      · rw [g111 72 (by decide) (by decide), z10 111 72 (fun _ => by decide) (by decide)]; exact o2
      · rw [hσ2, upS_eq]
      · rw [g111 71 (by decide) (by decide)]; exact z3.2.2.2.2.2.2.2.2.1
      · rw [g111 73 (by decide) (by decide), z10 111 73 (fun _ => by decide) (by decide)]; exact w1
      · rw [b5 111 74 (fun _ => by decide), upS_eq]
      · rw [hσ2, upS_ne (by decide), upS_ne (by decide), upS_ne (by decide), upS_nk (by omega), b4 43 k (fun y => absurd y (by decide))]
      · rw [hσ2, upS_ne (by decide), upS_ne (by decide), upS_nk (by omega), upS_ne (by decide), b4 44 k (fun y => absurd y (by decide))]
      · rw [hσ2, upS_ne (by decide), upS_nk (by omega), upS_ne (by decide), upS_ne (by decide), b4 45 k (fun y => absurd y (by decide))]
      · rw [hσ2, upS_ne (by decide), upS_ne (by decide), upS_ne (by decide), upS_eq]
      · rw [g138]; exact z5
      · rw [g138, z6, hσ2, upS_ne (by decide), upS_eq]
      · rw [hσ2, upS_ne (by decide), upS_eq]; omega
      · rw [hσ2, upS_ne (by decide), upS_eq, hen]; omega
  · obtain ⟨σ', τ', a1, a2, a3, a4, a5, a6⟩ := hL.hand.fail h9 (p := 1) (fun _ => rfl)
    refine Or.inr ⟨σ', τ', ?_, ?_, a3, kX.fail a5, kM.bad a6⟩
    · rw [n1, xbR_s, if_pos rfl, a1, xbW_s]; rfl
    · rw [n2, xbR_s, if_pos rfl, a2, xbW_s]; rfl
/-- the class's readSized, behind the word -/
def szT (s0 : Int) (σ2 : xSt) : Option (Int × xSt) :=
  xbR (f_Tokens_isSigned 60 σ2) fun r3 =>
  if r3 = 0 then (xbR (f_Tokens_isSigned 61 σ2) fun r4 =>
  if r4 = 0 then (xbR (f_Tokens_isSigned 62 σ2) fun r5 =>
  if r5 = 0 then (xbW (f_Tokens_fail 1 σ2) fun r6 σ7 =>
  some (xnb r6, σ7))
  else (f_Sentence_readSized_54 s0 σ2))
  else (f_Sentence_readSized_54 s0 σ2))
  else (f_Sentence_readSized_54 s0 σ2)
theorem comp_lock {i O S W : Nat} {σ τ : xSt} (hR : SnR σ0 τ0 d n c i O S W σ τ) (hS : S + 1 ≤ 2 * O) {p w r : Int} (hp : p = 6 ∧ r = 62 ∨ p = 7 ∧ r = 63) (hw : w32 (50 + w) = r) :
    (∃ σ' τ', szT p σ = some (1, σ') ∧ f_M_readCompare w τ = some (1, τ') ∧ SnF σ0 τ0 d n c en O S W σ τ σ' τ') ∨ (∃ σ' τ', szT p σ = some (0, σ') ∧ f_M_readCompare w τ = some (0, τ') ∧ SnB σ0 τ0 σ' τ') := by
  obtain ⟨hL, h9, h10, kX, kM, o1, o2, s1, s2, w1, hO, hSO⟩ := id hR
  obtain ⟨u1, v1, a1, b1⟩ := hL.hand.sign 60
  obtain ⟨u2, v2, a2, b2⟩ := hL.hand.sign 61
  obtain ⟨u3, v3, a3, b3⟩ := hL.hand.sign 62
  unfold szT f_M_readCompare
  rw [a1, xbR_s, b1, xbR_s, a2, xbR_s, b2, xbR_s, a3, xbR_s, b3, xbR_s]
  by_cases hz : u1 = 0 ∧ u2 = 0 ∧ u3 = 0
  · obtain ⟨σ', τ', c1, c2, c3, c4, c5, c6⟩ := hL.hand.fail h9 (p := 1) (fun _ => rfl)
    refine Or.inr ⟨σ', τ', ?_, ?_, c3, kX.fail c5, kM.bad c6⟩
    · rw [if_pos hz.1, if_pos hz.2.1, if_pos hz.2.2, c1, xbW_s]; rfl
    · rw [if_pos hz.1, if_pos hz.2.1, if_pos hz.2.2, c2, xbW_s]; rfl
  · have s6 : σ 2 6 = 6 ∧ (σ 2 7 = 60 ∨ σ 2 7 = 61 ∨ σ 2 7 = 62) := by
      rcases v1 with z1 | z1
      · rcases v2 with z2 | z2
        · rcases v3 with z3 | z3
          · exact absurd ⟨z1, z2, z3⟩ hz
          · have := sgn1 (p := 62) (σ := σ) (by rw [a3, z3])
            exact ⟨this.1, Or.inr (Or.inr this.2)⟩
        · have := sgn1 (p := 61) (σ := σ) (by rw [a2, z2])
          exact ⟨this.1, Or.inr (Or.inl this.2)⟩
      · have := sgn1 (p := 60) (σ := σ) (by rw [a1, z1])
        exact ⟨this.1, Or.inl this.2⟩
    have hcls : (if u1 = 0 then (if u2 = 0 then (if u3 = 0 then (xbW (f_Tokens_fail 1 σ) fun r6 σ7 => some (xnb r6, σ7)) else (f_Sentence_readSized_54 p σ)) else (f_Sentence_readSized_54 p σ)) else (f_Sentence_readSized_54 p σ)) = f_Sentence_readSized_54 p σ := by
      by_cases z1 : u1 = 0
      · rw [if_pos z1]
        by_cases z2 : u2 = 0
        · rw [if_pos z2, if_neg (fun z3 => hz ⟨z1, z2, z3⟩)]
        · rw [if_neg z2]
      · rw [if_neg z1]
    have hmod : (if u1 = 0 then (if u2 = 0 then (if u3 = 0 then (xbW (f_M_bad 1 τ) fun r4 σ5 => some (xnb r4, σ5)) else (f_M_readCompare_33 w τ)) else (f_M_readCompare_33 w τ)) else (f_M_readCompare_33 w τ)) = f_M_readCompare_33 w τ := by
      by_cases z1 : u1 = 0
      · rw [if_pos z1]
        by_cases z2 : u2 = 0
        · rw [if_pos z2, if_neg (fun z3 => hz ⟨z1, z2, z3⟩)]
        · rw [if_neg z2]
      · rw [if_neg z1]
    rw [hcls, hmod]
    have t9 : τ 111 9 = σ 2 7 := by
      obtain ⟨-, hh⟩ := hL.hand
      have s61 := s6.1
      rcases hh with ⟨y1, y2⟩ | ⟨y1, y2⟩ | ⟨y1, y2⟩ | ⟨l, l1, l2, l3, l4, l5, l6, ⟨l7, l8⟩ | ⟨l7, l8⟩⟩ | ⟨y1, y2, -⟩ | ⟨y1, y2, y3⟩
      · omega
      · omega
      · omega
      · omega
      · omega
      · omega
      · exact y3.symm
    obtain ⟨σ1, τ1, g1, g2, g3, g4, g5⟩ := hR.go (by have := s6.1; omega) (by have := s6.1; omega)
    obtain ⟨hL1, h91, h101, kX1, kM1, -⟩ := id g3
    unfold f_Sentence_readSized_54 f_M_readCompare_33
    rw [xlet_s, g1, xbR_s, xlet_s, xlet_s, g2, xbR_s, t9]
    unfold f_Tokens_isNumber
    by_cases h5 : σ1 2 6 = 5
    · have hn := hL1.num h5
      rcases num_lock hL1 h91 0 999 with ⟨r1, r2, σ2, τ2, p1, p2, p3, p4, p5, p6, p7⟩ | ⟨σ2, τ2, p1, -⟩
      · have hR2 : SnR σ0 τ0 d n c (i + 1 + 1) O S W σ2 τ2 := by
          obtain ⟨-, -, -, -, -, x1, x2, x3, x4, x5, x6, x7⟩ := g3
          refine ⟨p4, ?_, ?_, kX1.step p6, kM1.num p7, ?_, ?_, ?_, ?_, ?_, x6, x7⟩
          · rw [p6 2 9 (fun _ => by decide)]; exact h91
          · rw [p7 111 10 (fun _ => by decide), upS_nk (by decide)]; exact h101
          · rw [p6 42 0 (fun y => absurd y (by decide))]; exact x1
          · rw [p7 111 72 (fun _ => by decide), upS_nk (by decide)]; exact x2
          · rw [p6 42 1 (fun y => absurd y (by decide))]; exact x3
          · rw [p7 111 71 (fun _ => by decide), upS_nk (by decide)]; exact x4
          · rw [p7 111 73 (fun _ => by decide), upS_nk (by decide)]; exact x5
        obtain ⟨σ3, τ3, k1, k2, k3, k4, ⟨k5, k6, k7⟩, k8, k9, k10, k11, k12, k13⟩ := add_lock hR2 hS p (σ 2 7) (σ1 2 7) r 0 (σ1 2 7) (σ 2 7)
        have f : ∀ q, (upS τ3 111 74 (S : Int)) 138 q = τ3 138 q := fun q => upS_ne (by decide)
        refine Or.inl ⟨σ3, upS τ3 111 74 (S : Int), ?_, ?_, i + 1 + 1, k3.top _, upS_eq, ⟨fun k hk => ?_, fun q hq => ?_⟩, SnA.leaf ?_⟩
        · rw [if_pos h5, xbR_s, if_neg (by decide), p2, xbR_s, k1, xbW_s]; rfl
        · rw [p3, xbW_s, if_neg (by decide), hw, p5, k2, xbW_s, xlet_s]
        · obtain ⟨y1, y2, y3⟩ := k4.1 k hk
          exact ⟨by rw [y1, p6 43 k (fun y => absurd y (by decide)), g4 43 k (fun y => absurd y (by decide))], by rw [y2, p6 44 k (fun y => absurd y (by decide)), g4 44 k (fun y => absurd y (by decide))], by rw [y3, p6 45 k (fun y => absurd y (by decide)), g4 45 k (fun y => absurd y (by decide))]⟩
        · rw [f, k4.2 q hq, p7 138 q (fun y => absurd y (by decide)), upS_ne (by decide), g5 138 q (fun y => absurd y (by decide))]
        · rw [f, f, f, f, k5, k6, k7, k8, k10, k11]
          exact Or.inr (Or.inr (Or.inr ⟨hp, rfl, rfl, s6.2, hn⟩))
      · exfalso
        unfold f_Tokens_holdsNumber at p1
        rw [if_pos h5, if_neg (by omega), if_neg (by omega)] at p1
        cases p1
    · rcases num_lock hL1 h91 0 999 with ⟨r1, r2, σ2, τ2, p1, -⟩ | ⟨σ2, τ2, p1, p2, p3, p4, p5, p6⟩
      · exfalso
        unfold f_Tokens_holdsNumber at p1
        rw [if_neg h5] at p1
        obtain ⟨σ', τ', c1, c2, c3, c4, c5, c6⟩ := hL1.hand.fail h91 (p := 1) (fun _ => rfl)
        rw [c1, xbW_s] at p1
        exact absurd (Prod.mk.inj (Option.some.inj p1)).1 (by decide)
      · unfold f_Tokens_holdsNumber at p1
        obtain ⟨σ', τ', c1, -⟩ := hL1.hand.fail h91 (p := 1) (fun _ => rfl)
        rw [if_neg h5, c1, xbW_s] at p1
        obtain rfl : σ' = σ2 := (Prod.mk.inj (Option.some.inj p1)).2
        refine Or.inr ⟨σ', τ2, ?_, ?_, p3, kX1.fail p5, kM1.bad p6⟩
        · rw [if_neg h5, xbR_s, if_pos rfl, c1, xbW_s]; rfl
        · rw [p2, xbW_s, if_pos rfl]
end
