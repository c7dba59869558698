/-! TABLES read in lock-step: ENDS -/
theorem end_fin {T E : Nat} {op : Int} {cs : Nat} {σ τ σ' τ' : xSt} (hO : TbO T E op cs σ τ) (hE6 : E < 6) (x2 : σ' 27 2 = ((E + 1 : Nat) : Int)) (y1 : τ' 114 1 = ((E + 1 : Nat) : Int)) (fx1 : σ' 27 1 = σ 27 1) (fx3 : σ' 27 3 = σ 27 3) (fx : ∀ a q, 28 ≤ a → a ≤ 32 → σ' a q = σ a q) (fx2 : ∀ a q, 33 ≤ a → a ≤ 35 → q < E → σ' a q = σ a q) (fm : ∀ q, q ≠ 1 → q ≠ 28 + 2 * E → q ≠ 29 + 2 * E → τ' 114 q = τ 114 q) (fm2 : ∀ q, q ≠ 3 + E → τ' 118 q = τ 118 q) (hnew : EnD σ' τ' E) : TbO T (E + 1) op cs σ' τ' := by
  obtain ⟨t1, t2, t3, e1, e2, e3, o1, o2, o3, o4, c1, c2, hT, hE⟩ := hO
  refine ⟨fx1.trans t1, ?_, t3, x2, y1, by omega, fx3.trans o1, ?_, o3, o4, ?_, c2, fun t ht => ?_, fun e he => ?_⟩
  · rw [fm 0 (by decide) (by omega) (by omega)]; exact t2
  · rw [fm 2 (by decide) (by omega) (by omega)]; exact o2
  · rw [fm 40 (by decide) (by omega) (by omega)]; exact c1
  · exact (hT t ht).cg (fun a h1 h2 => fx a t h1 (by omega)) (fun s hs => fx 32 _ (by decide) (by decide)) (fun j hj => fm _ (by omega) (by omega) (by omega)) (fm2 t (by omega)) rfl Iff.rfl
  · by_cases hz : e = E
    · rw [hz]; exact hnew
    · exact (hE e (by omega)).cg (fun a h1 h2 => fx2 a e h1 h2 (by omega)) (fm _ (by omega) (by omega) (by omega)) (fm _ (by omega) (by omega) (by omega)) (fm2 _ (by omega))
section
variable {σ0 τ0 : xSt} {d : Nat → Int} {n c : Nat}
theorem end_line {i T E : Nat} {op : Int} {cs : Nat} {σ τ : xSt} (hR : TbR σ0 τ0 d n c i T E op cs σ τ) (h3 : σ 2 6 = 3) (m7 : τ 111 7 = 2) :
    (∃ σ' τ' i', f_Table_readEnd σ = some (1, σ') ∧ mLine f_M_readEnd τ = some (1, τ') ∧ TbR σ0 τ0 d n c i' T (E + 1) op cs σ' τ') ∨ (∃ σ' τ', f_Table_readEnd σ = some (0, σ') ∧ mLine f_M_readEnd τ = some (0, τ') ∧ TbB σ0 τ0 σ' τ') := by
  obtain ⟨hL, h9, h10, kX, kM, hO⟩ := hR
  obtain ⟨t1, t2, t3, e1, e2, e3, o1, o2, o3, o4, c1, c2, hT, hE⟩ := id hO
  by_cases hE6 : E < 6
  · have x28 := name_lock hL h9 hO h3 (a2 := 33) (p := E) (lim := 6) (slot := 3 + E) (Or.inr rfl) lay33 hE6 (by omega)
    have b1 : 0 ≤ ((28 + 2 * E : Nat) : Int) ∧ ((28 + 2 * E : Nat) : Int) < 41 := by omega
    have b2 : 0 ≤ ((29 + 2 * E : Nat) : Int) ∧ ((29 + 2 * E : Nat) : Int) < 41 := by omega
    have bE : 0 ≤ (E : Int) ∧ (E : Int) < 6 := by omega
    have E100 : E < 100000 := by omega
    obtain ⟨kk, hkk⟩ : ∃ kk : xSt → Option (Int × xSt), kk = fun s6 => (xlet (upS s6 114 (28 + 2 * E) 0) fun σ7 => xlet (upS σ7 114 (29 + 2 * E) 0) fun σ8 => xlet (upS σ8 114 1 (w32 ((σ8 114 1) + 1))) fun σ9 => if σ9 111 7 = 3 then (xbW (f_M_readOf 1 20 σ9) fun r10 σ11 => if r10 = 0 then (some (0, σ11)) else (xlet (upS σ11 114 (28 + 2 * E) (σ11 111 24)) fun σ12 => xlet (upS σ12 114 (29 + 2 * E) (σ12 111 13)) fun σ13 => some (1, σ13))) else (some (1, σ9))) := ⟨_, rfl⟩
    have mc : f_M_readEnd τ = (xbW (xbR (f_M_go τ) fun σ4 => f_M_readNew ((3 + E : Nat) : Int) σ4) fun r5 σ6 => if r5 = 0 then (some (0, σ6)) else (kk σ6)) := by
      have nE6 : ¬ (E : Int) = 6 := by omega
      have ew : w32 (28 + w32 (2 * (E : Int))) = ((28 + 2 * E : Nat) : Int) := by
        have u : w32 (2 * (E : Int)) = ((2 * E : Nat) : Int) := (w32_o (by omega) (by omega)).trans (by omega)
        rw [u]
        exact (w32_o (by omega) (by omega)).trans (by omega)
      have ew1 : w32 (((28 + 2 * E : Nat) : Int) + 1) = ((29 + 2 * E : Nat) : Int) := (w32_o (by omega) (by omega)).trans (by omega)
      have ew3 : w32 (3 + (E : Int)) = ((3 + E : Nat) : Int) := (w32_o (by omega) (by omega)).trans (by omega)
      unfold f_M_readEnd
      rw [e2, xlet_s, if_neg nE6, ew, ew1, ew3]
      cases f_M_go τ with
      | none => rfl
      | some s =>
        rw [xbR_s, xbR_s]
        cases f_M_readNew ((3 + E : Nat) : Int) s with
        | none => rw [xbW_n, xbW_n]
        | some r =>
          obtain ⟨r5, s6⟩ := r
          rw [xbW_s, xbW_s, hkk]
          simp only [if_pos b1, if_pos b2, Int.toNat_natCast]
    rcases x28 with ⟨σ1, τ1, a1, a2, a3, a4, a5, a6⟩ | ⟨σ1, τ1, a1, a2, a3, a4, a5⟩
    · have g114 : ∀ q, τ1 114 q = τ 114 q := fun q => a6 114 q (fun y => absurd y (by decide)) (fun y => absurd y.1 (by decide))
      have s1k : ∀ a q, a ≠ 2 → ¬ (a = 33 ∧ q = E) → σ1 a q = σ a q := fun a q z1 z2 => a5 a q (fun y => absurd y z1) z2
      have s272 : σ1 27 2 = (E : Int) := by rw [s1k 27 2 (by decide) (by omega)]; exact e1
      obtain ⟨s5, hs5⟩ : ∃ s5, s5 = upS (upS σ1 34 E 0) 35 E 0 := ⟨_, rfl⟩
      obtain ⟨τ3, hτ3⟩ : ∃ τ3, τ3 = upS (upS (upS τ1 114 (28 + 2 * E) 0) 114 (29 + 2 * E) 0) 114 1 ((E + 1 : Nat) : Int) := ⟨_, rfl⟩
      have s52 : s5 27 2 = (E : Int) := by rw [hs5, upS_ne (by decide), upS_ne (by decide)]; exact s272
      have cls : f_Table_readEnd σ = (xbR (f_Tokens_isSigned 59 s5) fun r6 => if r6 = 0 then (xbW (f_Tokens_holdsNumber 0 20 s5) fun r7 σ8 => if r7 = 0 then (some (0, σ8)) else (xlet (σ8 2 7) fun x9 => xbR (f_Tokens_step σ8) fun σ10 => xbW (f_Tokens_holdsNumber (xmax 1 x9) 20 σ10) fun r11 σ12 => if r11 = 0 then (some (0, σ12)) else (if 0 ≤ σ12 27 2 ∧ σ12 27 2 < 6 then (xlet (upS σ12 34 (σ12 27 2).toNat x9) fun σ13 => if 0 ≤ σ13 27 2 ∧ σ13 27 2 < 6 then (xlet (upS σ13 35 (σ13 27 2).toNat (σ13 2 7)) fun σ14 => xbR (f_Tokens_step σ14) fun σ15 => f_Table_readEnd_123 σ15) else none) else none))) else (f_Table_readEnd_123 s5)) := by
        unfold f_Table_readEnd
        rw [e1, a1, xbW_s, if_neg (by decide), s272, x_isWithin, if_pos bE, xbR_s, if_neg (by decide), if_pos bE, Int.toNat_natCast, xlet_s, upS_ne (by decide), s272, if_pos bE, Int.toNat_natCast, xlet_s, ← hs5]
      have kk1 : kk τ1 = (if τ3 111 7 = 3 then (xbW (f_M_readOf 1 20 τ3) fun r10 σ11 => if r10 = 0 then (some (0, σ11)) else (xlet (upS σ11 114 (28 + 2 * E) (σ11 111 24)) fun σ12 => xlet (upS σ12 114 (29 + 2 * E) (σ12 111 13)) fun σ13 => some (1, σ13))) else (some (1, τ3))) := by
        rw [hkk]
        show (xlet (upS τ1 114 (28 + 2 * E) 0) fun σ7 => _) = _
        rw [xlet_s, xlet_s, upS_nk (by omega), upS_nk (by omega), g114, e2, w32_n1 E100, xlet_s, ← hτ3]
      have mdl : mLine f_M_readEnd τ = (xbW (kk τ1) fun s0 s => if s0 = 0 then (some (0, s)) else (f_M_readSign 59 s)) := by
        unfold mLine
        rw [mc, a2, xbW_s, if_neg (by decide)]
      rw [kk1] at mdl
      clear kk1 mc hkk
      have n3 : ∀ a q, a ≠ 114 → τ3 a q = τ1 a q := fun a q z => by rw [hτ3, upS_ne z, upS_ne z, upS_ne z]
      have n3q : ∀ q, q ≠ 1 → q ≠ 28 + 2 * E → q ≠ 29 + 2 * E → τ3 114 q = τ 114 q := fun q z1 z2 z3 => by rw [hτ3, upS_nk z1, upS_nk z3, upS_nk z2, g114]
      have n5 : ∀ a q, ¬ (34 ≤ a ∧ a ≤ 35 ∧ q = E) → s5 a q = σ1 a q := fun a q z => by rw [hs5, upS_rd, if_neg (by omega), upS_rd, if_neg (by omega)]
      have hL3 : LR d n 500 c (i + 2) s5 τ3 := a3.cg (fun a k z1 z2 => n5 a k (by omega)) (fun q _ _ => n3 111 q (by decide)) (fun q => n3 112 q (by decide))
      have h95 : s5 2 9 = 0 := by rw [n5 2 9 (by omega), a5 2 9 (fun _ => by decide) (by omega)]; exact h9
      have h103 : τ3 111 10 = 0 := by rw [n3 111 10 (by decide), a6 111 10 (fun _ => by decide) (by omega)]; exact h10
      have kX5 : KpX tbW σ0 s5 := kX.st (fun a q z1 z2 => by
        unfold tbW at z2
        rw [n5 a q (by omega), s1k a q (by omega) (by omega)])
      have kM3 : KpM tbV τ0 τ3 := kM.st (fun a q z1 z2 => by
        rw [n3 a q (fun y => z2 (Or.inl y)), a6 a q (fun y => by have := z1 y; omega) (fun y => z2 (Or.inr (Or.inl y.1)))])
      -- the end of the line
      have finish : ∀ (s4 τ5 : xSt) (i' : Nat) (p w : Int), LR d n 500 c i' s4 τ5 → s4 2 9 = 0 → τ5 111 10 = 0 → KpX tbW σ0 s4 → KpM tbV τ0 τ5 → (∀ a q, a ≠ 2 → ¬ (34 ≤ a ∧ a ≤ 35 ∧ q = E) → s4 a q = s5 a q) → (∀ a q, a ≠ 111 → ¬ (a = 114 ∧ (q = 28 + 2 * E ∨ q = 29 + 2 * E)) → τ5 a q = τ3 a q) → s4 34 E = p → s4 35 E = w → τ5 114 (28 + 2 * E) = p → τ5 114 (29 + 2 * E) = w → 0 ≤ p ∧ p ≤ w ∧ w ≤ 20 →
          (∃ σ' τ' : xSt, ∃ i'' : Nat, f_Table_readEnd_123 s4 = some (1, σ') ∧ f_M_readSign 59 τ5 = some (1, τ') ∧ TbR σ0 τ0 d n c i'' T (E + 1) op cs σ' τ') ∨ (∃ σ' τ', f_Table_readEnd_123 s4 = some (0, σ') ∧ f_M_readSign 59 τ5 = some (0, τ') ∧ TbB σ0 τ0 σ' τ') := by
        intro s4 τ5 i' p w z1 z2 z3 z4 z5 fX fM y1 y2 y3 y4 y5
        obtain ⟨sf, hsf⟩ : ∃ sf, sf = upS s4 27 2 ((E + 1 : Nat) : Int) := ⟨_, rfl⟩
        have s42 : s4 27 2 = (E : Int) := by rw [fX 27 2 (by decide) (by omega)]; exact s52
        have x123 : f_Table_readEnd_123 s4 = (xbW (f_Tokens_pass 59 sf) fun r17 σ18 => some (xnb r17, σ18)) := by
          unfold f_Table_readEnd_123
          rw [s42, w32_n1 E100, xlet_s, ← hsf]
        have hLf : LR d n 500 c i' sf τ5 := z1.cg (fun a k x1 x2 => by rw [hsf, upS_ne (by omega)]) (fun _ _ _ => rfl) (fun _ => rfl)
        have h9f : sf 2 9 = 0 := by rw [hsf, upS_ne (by decide)]; exact z2
        have kXf : KpX tbW σ0 sf := z4.st (fun a q x1 x2 => by
          unfold tbW at x2
          rw [hsf, upS_ne (by omega)])
        rw [x123]
        rcases pass_lock hLf h9f 59 with ⟨σ', τ', w1, w2, w3, w4, w5⟩ | ⟨σ', τ', w1, w2, w3, w4, w5, w6⟩
        · have gX : ∀ a q, a ≠ 2 → σ' a q = sf a q := fun a q z => w4 a q (fun y => absurd y z)
          have gM : ∀ a q, a ≠ 111 → τ' a q = τ5 a q := fun a q z => w5 a q (fun y => absurd y z)
          have kf : ∀ a q, a ≠ 27 → sf a q = s4 a q := fun a q z => by rw [hsf, upS_ne z]
          have k27 : ∀ q, q ≠ 2 → σ' 27 q = σ 27 q := fun q z => by rw [gX 27 q (by decide), hsf, upS_nk z, fX 27 q (by decide) (by omega), n5 27 q (by omega), s1k 27 q (by decide) (by omega)]
          refine Or.inl ⟨σ', τ', i' + 1, by rw [w1, xbW_s]; rfl, w2, w3, ?_, ?_, kXf.step w4, z5.go w5, ?_⟩
          · rw [w4 2 9 (fun _ => by decide)]; exact h9f
          · rw [w5 111 10 (fun _ => by decide)]; exact z3
          · refine end_fin hO hE6 ?_ ?_ (k27 1 (by decide)) (k27 3 (by decide)) (fun a q x1 x2 => ?_) (fun a q x1 x2 x3 => ?_) (fun q x1 x2 x3 => ?_) (fun q hq => ?_) ⟨?_, ?_, ?_, ?_, ?_, ?_⟩
            · rw [gX 27 2 (by decide), hsf, upS_eq]
            · rw [gM 114 1 (by decide), fM 114 1 (by decide) (by omega), hτ3, upS_eq]
            · rw [gX a q (by omega), kf a q (by omega), fX a q (by omega) (by omega), n5 a q (by omega), s1k a q (by omega) (by omega)]
            · rw [gX a q (by omega), kf a q (by omega), fX a q (by omega) (by omega), n5 a q (by omega), s1k a q (by omega) (by omega)]
            · rw [gM 114 q (by decide), fM 114 q (by decide) (by omega), n3q q x1 x2 x3]
            · rw [gM 118 q (by decide), fM 118 q (by decide) (by omega), n3 118 q (by decide), a6 118 q (fun y => absurd y (by decide)) (fun y => hq y.2)]
            · rw [gX 34 E (by decide), kf 34 E (by decide), y1, gM 114 _ (by decide), y3]
            · rw [gX 35 E (by decide), kf 35 E (by decide), y2, gM 114 _ (by decide), y4]
            · rw [gX 34 E (by decide), kf 34 E (by decide), y1]; exact y5.1
            · rw [gX 34 E (by decide), kf 34 E (by decide), y1, gX 35 E (by decide), kf 35 E (by decide), y2]; exact y5.2.1
            · rw [gX 35 E (by decide), kf 35 E (by decide), y2]; exact y5.2.2
            · rw [gX 33 E (by decide), kf 33 E (by decide), fX 33 E (by decide) (by omega), n5 33 E (by omega), gM 118 _ (by decide), fM 118 _ (by decide) (by omega), n3 118 _ (by decide)]
              exact a4
        · exact Or.inr ⟨σ', τ', by rw [w1, xbW_s]; rfl, w2, w3, kXf.fail w5, z5.bad w6⟩
      obtain ⟨v, v0, v1, v2⟩ := hL3.hand.sign 59
      rw [v1, xbR_s] at cls
      by_cases h5 : s5 2 6 = 5
      · -- a share
        have hv : v = 0 := by
          rcases v0 with z | z
          · exact z
          · have := (sgn1 (p := 59) (σ := s5) (by rw [v1, z])).1
            omega
        have h57 : τ3 111 7 = 3 := by
          rcases hL3.hand.num with ⟨x1, x2, x3⟩ | ⟨x1, x2⟩
          · exact x2
          · exact absurd h5 x1
        rw [if_pos hv] at cls
        rw [if_pos h57] at mdl
        rcases num_w hL3 h95 0 20 with ⟨r0, r1, r2, τ4, p1, p2, p3, p4, p5⟩ | ⟨s2, τ4, p1, p2, p3, p4, p5⟩
        · obtain ⟨s2, w1, w2, w3⟩ := p5 s5 (fun _ _ _ _ => rfl)
          rw [p1, xbW_s, if_neg (by decide), xlet_s, w1, xbR_s] at cls
          have h92 : s2 2 9 = 0 := by rw [w3 2 9 (fun _ => by decide)]; exact h95
          obtain ⟨m, hm⟩ : ∃ m, m = xmax 1 (s5 2 7) := ⟨_, rfl⟩
          have hmb : 1 ≤ m ∧ s5 2 7 ≤ m := by
            rw [hm]
            unfold xmax
            by_cases z : 1 < s5 2 7
            · rw [if_pos z]; omega
            · rw [if_neg z]; omega
          have mof : f_M_readOf 1 20 τ3 = f_M_readOf_27 20 (s5 2 7) m τ4 := by
            unfold f_M_readOf
            rw [p2, xbW_s, if_neg (by decide), xlet_s, p3, hm]
            unfold xmax
            by_cases z : 1 < s5 2 7
            · rw [if_pos z, if_pos z]
            · rw [if_neg z, if_neg z]
          rw [← hm] at cls
          rw [mof] at mdl
          rcases num_w w2 h92 m 20 with ⟨r3, r4, r5, τ5, q1, q2, q3, q4, q5⟩ | ⟨s3, τ5, q1, q2, q3, q4, q5⟩
          · have s2k : ∀ a q, a ≠ 2 → s2 a q = s5 a q := fun a q z => w3 a q (fun y => absurd y z)
            have t27 : s2 27 2 = (E : Int) := by rw [s2k 27 2 (by decide)]; exact s52
            obtain ⟨s3, hs3⟩ : ∃ s3, s3 = upS (upS s2 34 E (s5 2 7)) 35 E (s2 2 7) := ⟨_, rfl⟩
            obtain ⟨s4, u1, u2, u3⟩ := q5 s3 (fun a k z1 z2 => by rw [hs3, upS_ne (by omega), upS_ne (by omega)])
            rw [q1, xbW_s, if_neg (by decide), t27, if_pos bE, Int.toNat_natCast, xlet_s, upS_ne (by decide), t27, if_pos bE, Int.toNat_natCast, upS_ne (by decide), xlet_s, ← hs3, u1, xbR_s] at cls
            obtain ⟨τ6, hτ6⟩ : ∃ τ6, τ6 = upS (upS (upS τ5 111 24 (s5 2 7)) 114 (28 + 2 * E) (s5 2 7)) 114 (29 + 2 * E) (s2 2 7) := ⟨_, rfl⟩
            unfold f_M_readOf_27 at mdl
            rw [q2, xbW_s, if_neg (by decide), xlet_s, xbW_s, if_neg (by decide), upS_eq, xlet_s, upS_ne (by decide), upS_nk (by decide), q3, xlet_s, ← hτ6, xbW_s, if_neg (by decide)] at mdl
            have s4k : ∀ a q, a ≠ 2 → s4 a q = s3 a q := fun a q z => u3 a q (fun y => absurd y z)
            have t5k : ∀ a q, a ≠ 111 → τ5 a q = τ3 a q := fun a q z => by rw [q4 a q (fun y => absurd y z), upS_ne z, p4 a q (fun y => absurd y z), upS_ne z]
            have f := finish s4 τ6 (i + 2 + 1 + 1) (s5 2 7) (s2 2 7) (u2.cg (fun _ _ _ _ => rfl) (fun q z1 z2 => by rw [hτ6, upS_ne (by decide), upS_ne (by decide), upS_nk (by omega)]) (fun q => by rw [hτ6, upS_ne (by decide), upS_ne (by decide), upS_ne (by decide)]))
              (by rw [u3 2 9 (fun _ => by decide), hs3, upS_ne (by decide), upS_ne (by decide)]; exact h92)
              (by rw [hτ6, upS_ne (by decide), upS_ne (by decide), upS_nk (by decide), q4 111 10 (fun _ => by decide), upS_nk (by decide), p4 111 10 (fun _ => by decide), upS_nk (by decide)]; exact h103)
              (((kX5.step w3).st (fun a q z1 z2 => by
                unfold tbW at z2
                rw [hs3, upS_ne (by omega), upS_ne (by omega)])).step u3)
              (((kM3.num p4).num q4).st (fun a q z1 z2 => by
                rw [hτ6, upS_ne (fun y => z2 (Or.inl y)), upS_ne (fun y => z2 (Or.inl y)), upS_rd, if_neg (fun y => z2 (Or.inr (Or.inr y)))]))
              (fun a q z1 z2 => by rw [s4k a q z1, hs3, upS_rd, if_neg (by omega), upS_rd, if_neg (by omega), s2k a q z1])
              (fun a q z1 z2 => by rw [hτ6, upS_rd, if_neg (by omega), upS_rd, if_neg (by omega), upS_ne z1, t5k a q z1])
              (by rw [s4k 34 E (by decide), hs3, upS_ne (by decide), upS_eq])
              (by rw [s4k 35 E (by decide), hs3, upS_eq])
              (by rw [hτ6, upS_nk (by omega), upS_eq])
              (by rw [hτ6, upS_eq])
              ⟨r1, by omega, r5⟩
            rcases f with ⟨σ', τ', i'', y1, y2, y3⟩ | ⟨σ', τ', y1, y2, y3⟩
            · rw [y1] at cls
              rw [y2] at mdl
              exact Or.inl ⟨σ', τ', i'', cls, mdl, y3⟩
            · rw [y1] at cls
              rw [y2] at mdl
              exact Or.inr ⟨σ', τ', cls, mdl, y3⟩
          · rw [q1, xbW_s, if_pos rfl] at cls
            unfold f_M_readOf_27 at mdl
            rw [q2, xbW_s, if_pos rfl, xbW_s, if_pos rfl, xbW_s, if_pos rfl] at mdl
            exact Or.inr ⟨s3, τ5, cls, mdl, q3, (kX5.step w3).fail q4, (kM3.num p4).bad q5⟩
        · rw [p1, xbW_s, if_pos rfl] at cls
          unfold f_M_readOf at mdl
          rw [p2, xbW_s, if_pos rfl, xbW_s, if_pos rfl, xbW_s, if_pos rfl] at mdl
          exact Or.inr ⟨s2, τ4, cls, mdl, p3, kX5.fail p4, kM3.bad p5⟩
      · have h57 : ¬ τ3 111 7 = 3 := by
          rcases hL3.hand.num with ⟨x1, x2, x3⟩ | ⟨x1, x2⟩
          · exact absurd x1 h5
          · exact x2
        rw [if_neg h57, xbW_s, if_neg (by decide)] at mdl
        by_cases hv : v = 0
        · -- no share, and no ;
          obtain ⟨σ', τ', y1, y2, y3, y4, y5, y6⟩ := hL3.hand.fail h95 (p := 1) (fun _ => rfl)
          have hold : f_Tokens_holdsNumber 0 20 s5 = some (0, σ') := by
            unfold f_Tokens_holdsNumber
            rw [if_neg h5, y1, xbW_s]
            rfl
          rw [if_pos hv, hold, xbW_s, if_pos rfl] at cls
          unfold f_M_readSign at mdl
          rw [v2, xbR_s, if_pos hv, y2, xbW_s] at mdl
          exact Or.inr ⟨σ', τ', cls, mdl, y3, kX5.fail y5, kM3.bad y6⟩
        · rw [if_neg hv] at cls
          rcases finish s5 τ3 (i + 2) 0 0 hL3 h95 h103 kX5 kM3 (fun _ _ _ _ => rfl) (fun _ _ _ _ => rfl) (by rw [hs5, upS_ne (by decide), upS_eq]) (by rw [hs5, upS_eq]) (by rw [hτ3, upS_nk (by omega), upS_nk (by omega), upS_eq]) (by rw [hτ3, upS_nk (by omega), upS_eq]) ⟨by decide, by decide, by decide⟩ with ⟨σ', τ', i'', y1, y2, y3⟩ | ⟨σ', τ', y1, y2, y3⟩
          · exact Or.inl ⟨σ', τ', i'', cls.trans y1, mdl.trans y2, y3⟩
          · exact Or.inr ⟨σ', τ', cls.trans y1, mdl.trans y2, y3⟩
    · refine Or.inr ⟨σ1, τ1, ?_, ?_, a3, kX.st (fun a q z1 z2 => a4 a q (by omega)), kM.st (fun a q z1 z2 => a5 a q (fun y => by have := z1 y; omega))⟩
      · unfold f_Table_readEnd
        rw [e1, a1, xbW_s, if_pos rfl]
      · unfold mLine
        rw [mc, a2, xbW_s, if_pos rfl, xbW_s, if_pos rfl]
  · obtain ⟨σ', τ', a1, a2, a3, a4, a5, a6⟩ := hL.hand.fail h9 (p := 4) (fun z => by omega)
    refine Or.inr ⟨σ', τ', ?_, ?_, a3, kX.fail a5, kM.bad a6⟩
    · unfold f_Table_readEnd f_Table_readName
      rw [lay33, e1, x_isWithin, if_neg (show ¬ (0 ≤ (E : Int) ∧ (E : Int) < 6) by omega), xbR_s, if_pos rfl, a1, xbW_s, xbW_s]
      rfl
    · unfold mLine f_M_readEnd
      rw [e2, xlet_s, if_pos (show (E : Int) = 6 by omega), a2, xbW_s, xbW_s]
      rfl
end
