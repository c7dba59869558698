/-! SENTENCES read in lock-step: a ONE -/
theorem wrd_ne : ∀ k k' : Fin 14, k ≠ k' → pkN 32 (wrdL.getD k.val []) ≠ pkN 32 (wrdL.getD k'.val []) := by decide +kernel
def wa (k : Nat) : Nat := if k = 8 then 144 else if k = 9 then 149 else if k = 10 then 147 else if k = 11 then 148 else if k = 12 then 145 else 146
theorem wa_ok {k : Nat} (h1 : 8 ≤ k) (h2 : k ≤ 13) : (wa k, k) ∈ wdA := by
  rcases (show k = 8 ∨ k = 9 ∨ k = 10 ∨ k = 11 ∨ k = 12 ∨ k = 13 by omega) with rfl | rfl | rfl | rfl | rfl | rfl <;> decide
theorem find_w {σ τ : xSt} (h : Hand σ τ) :
    (∃ w : Nat, 8 ≤ w ∧ w ≤ 13 ∧ (∀ k : Nat, 8 ≤ k → k ≤ 13 → f_M_isWord (k : Int) τ = some (if k = w then 1 else 0)) ∧ (∀ s : xSt, s 2 6 = σ 2 6 → s 2 7 = σ 2 7 → ∀ a k : Nat, (a, k) ∈ wdA → 8 ≤ k → k ≤ 13 → f_Tokens_is a s = some (if k = w then 1 else 0)) ∧ σ 2 6 = 3 ∧ τ 111 7 = 2) ∨
    ((∀ k : Nat, 8 ≤ k → k ≤ 13 → f_M_isWord (k : Int) τ = some 0) ∧ ∀ a k : Nat, (a, k) ∈ wdA → 8 ≤ k → k ≤ 13 → f_Tokens_is a σ = some 0) := by
  have both : ∀ k : Nat, 8 ≤ k → k ≤ 13 → f_M_isWord (k : Int) τ = f_Tokens_is (wa k) σ := fun k h1 h2 => by
    obtain ⟨v, -, v1, v2⟩ := h.word (wa_ok h1 h2)
    rw [v1, v2]
  by_cases hw : ∃ w : Nat, 8 ≤ w ∧ w ≤ 13 ∧ σ 2 6 = 3 ∧ σ 2 7 = (pkN 32 (wrdL.getD w []) : Int)
  · obtain ⟨w, w1, w2, w3, w4⟩ := hw
    have key : ∀ s : xSt, s 2 6 = σ 2 6 → s 2 7 = σ 2 7 → ∀ a k : Nat, (a, k) ∈ wdA → 8 ≤ k → k ≤ 13 → f_Tokens_is a s = some (if k = w then 1 else 0) := fun s z1 z2 a k hm k1 k2 => by
      rw [x_isK hm, z1, z2, w3, w4]
      by_cases hk : k = w
      · rw [if_pos hk, hk, if_pos ⟨rfl, rfl⟩]
      · rw [if_neg hk, if_neg]
        rintro ⟨-, y⟩
        have := wrd_ne ⟨w, by omega⟩ ⟨k, by omega⟩ (fun z => hk (Fin.mk.inj z).symm)
        exact this (Int.ofNat_inj.mp y)
    refine Or.inl ⟨w, w1, w2, fun k k1 k2 => ?_, key, w3, ?_⟩
    · rw [both k k1 k2]
      exact key σ rfl rfl _ _ (wa_ok k1 k2) k1 k2
    · have e := both w w1 w2
      rw [key σ rfl rfl _ _ (wa_ok w1 w2) w1 w2, if_pos rfl] at e
      exact wrdM1 (by omega) e
  · have key : ∀ a k : Nat, (a, k) ∈ wdA → 8 ≤ k → k ≤ 13 → f_Tokens_is a σ = some 0 := fun a k hm k1 k2 => by
      rw [x_isK hm, if_neg (fun y => hw ⟨k, k1, k2, y.1, y.2⟩)]
    refine Or.inr ⟨fun k k1 k2 => ?_, key⟩
    rw [both k k1 k2]
    exact key _ _ (wa_ok k1 k2) k1 k2
theorem m_one10 {qa qb qc qd qe : xSt → Option (Int × xSt)} {l1 : Int} {w : Nat} {τ : xSt} (hw : w ≤ 14) (h0 : ∀ k : Nat, 8 ≤ k → k < w → f_M_isWord (k : Int) τ = some 0) (h1 : w ≤ 13 → f_M_isWord (w : Int) τ = some 1) : ∀ (j fu l : Nat), l + j = w → 8 ≤ l → j < fu → f_M_readOne_10 qa qb qc qd qe fu l1 (l : Int) τ = f_M_readOne_30 qa qb qc qd qe l1 (w : Int) τ := by
  intro j
  induction j with
  | zero =>
    intro fu l g1 g2 g3
    obtain ⟨fu, rfl⟩ : ∃ n2, fu = n2 + 1 := ⟨fu - 1, by omega⟩
    have hl : l = w := by omega
    rw [hl, f_M_readOne_10.eq_2]
    by_cases z : w ≤ 13
    · rw [if_neg (by omega), h1 z, xbR_s, if_neg (by decide)]
    · rw [if_pos (by omega)]
  | succ j ih =>
    intro fu l g1 g2 g3
    obtain ⟨fu, rfl⟩ : ∃ n2, fu = n2 + 1 := ⟨fu - 1, by omega⟩
    have l1' : l < 100000 := by omega
    rw [f_M_readOne_10.eq_2, if_neg (by omega), h0 l g2 (by omega), xbR_s, if_pos rfl, w32_n1 l1', xlet_s]
    exact ih fu (l + 1) (by omega) (by omega) (by omega)
section
variable {σ0 τ0 : xSt} {d : Nat → Int} {n c : Nat} {en : Int}
/-- into a ONE, on both sides -/
theorem SnR.ent {i O S W : Nat} {σ τ : xSt} (h : SnR σ0 τ0 d n c i O S W σ τ) (hO : O < 20) : SnR σ0 τ0 d n c i (O + 1) S (W + 1) (upS σ 42 0 ((O + 1 : Nat) : Int)) (upS (upS τ 111 72 ((O + 1 : Nat) : Int)) 111 73 ((W + 1 : Nat) : Int)) := by
  obtain ⟨hL, h9, h10, kX, kM, o1, o2, s1, s2, w1, h20, hS⟩ := h
  refine ⟨hL.cg (fun a k z1 z2 => upS_ne (by omega)) (fun q z1 z2 => by rw [upS_nk (by omega), upS_nk (by omega)]) (fun q => by rw [upS_ne (by decide), upS_ne (by decide)]), ?_, ?_, kX.st (fun a q z1 z2 => upS_ne (by unfold snW at z2; omega)), kM.st (fun a q z1 z2 => by rw [upS_rd, if_neg (fun y => z2 (Or.inr ⟨y.1, by omega, by omega⟩)), upS_rd, if_neg (fun y => z2 (Or.inr ⟨y.1, by omega, by omega⟩))]), upS_eq, ?_, ?_, ?_, upS_eq, by omega, by omega⟩
  · rw [upS_ne (by decide)]; exact h9
  · rw [upS_nk (by decide), upS_nk (by decide)]; exact h10
  · rw [upS_nk (by decide), upS_eq]
  · rw [upS_nk (by decide)]; exact s1
  · rw [upS_nk (by decide), upS_nk (by decide)]; exact s2
theorem SnR.out {i O S W : Nat} {σ τ : xSt} (h : SnR σ0 τ0 d n c i O S (W + 1) σ τ) : SnR σ0 τ0 d n c i O S W σ (upS τ 111 73 (W : Int)) := by
  obtain ⟨hL, h9, h10, kX, kM, o1, o2, s1, s2, w1, hO⟩ := h
  refine ⟨hL.cg (fun _ _ _ _ => rfl) (fun q z1 z2 => upS_nk (by omega)) (fun q => upS_ne (by decide)), h9, ?_, kX, kM.st (fun a q z1 z2 => by rw [upS_rd, if_neg (fun y => z2 (Or.inr ⟨y.1, by omega, by omega⟩))]), o1, ?_, s1, ?_, upS_eq, hO⟩
  · rw [upS_nk (by decide)]; exact h10
  · rw [upS_nk (by decide)]; exact o2
  · rw [upS_nk (by decide)]; exact s2
theorem m_172 {qa qb qc qd qe : xSt → Option (Int × xSt)} {v : Int} {τ : xSt} : f_M_readOne_172 qa qb qc qd qe v τ = some (xnb v, upS τ 111 73 (w32 (τ 111 73 - 1))) := by
  unfold f_M_readOne_172
  rw [xlet_s]
theorem out_fail {σ τ : xSt} {v : Int} (h : SnB σ0 τ0 σ τ) : SnB σ0 τ0 σ (upS τ 111 73 v) := by
  obtain ⟨⟨a1, a2⟩, a3, a4⟩ := h
  refine ⟨⟨?_, ?_⟩, a3, a4.st (fun a q z1 z2 => by rw [upS_rd, if_neg (fun y => z2 (Or.inr ⟨y.1, by omega, by omega⟩))])⟩
  · rw [upS_nk (by decide)]; exact a1
  · rw [upS_nk (by decide)]; exact a2
/-- out of a ONE -/
theorem one_fin {O S W i' O' S' : Nat} {σ τ σb τb σ' τ' : xSt} (hK : Kps S σ τ σb τb) (h : SnR σ0 τ0 d n c i' O' S' (W + 1) σ' τ') (h74 : τ' 111 74 = (S' : Int) - 1) (hO : O + 1 ≤ O') (hS : S' + 1 + 2 * O ≤ S + 2 * O') (hK2 : Kps S σb τb σ' τ') (hA : SnA σ' τ' en S S') : τ' 111 73 = ((W + 1 : Nat) : Int) ∧ SnE σ0 τ0 d n c en O S W σ τ σ' (upS τ' 111 73 (W : Int)) := by
  have f : ∀ q, (upS τ' 111 73 (W : Int)) 138 q = τ' 138 q := fun q => upS_ne (by decide)
  refine ⟨h.2.2.2.2.2.2.2.2.2.1, i', O', S', h.out, ?_, hO, hS, ⟨(hK.tr hK2 (Nat.le_refl S)).1, fun q hq => (f q).trans ((hK.tr hK2 (Nat.le_refl S)).2 q hq)⟩, hA.cg (fun _ _ => ⟨rfl, rfl, rfl⟩) (fun q _ => f q)⟩
  rw [upS_nk (by decide)]
  exact h74
theorem w_out {W : Nat} (h : W ≤ 8) : w32 (((W + 1 : Nat) : Int) - 1) = (W : Int) := (w32_o (by omega) (by omega)).trans (by omega)
/-- a leaf, behind its word -/
def SnF (σ0 τ0 : xSt) (d : Nat → Int) (n c : Nat) (en : Int) (O S W : Nat) (σs τs σ τ : xSt) : Prop := ∃ i' : Nat, SnR σ0 τ0 d n c i' O (S + 1) W σ τ ∧ τ 111 74 = (S : Int) ∧ Kps S σs τs σ τ ∧ SnA σ τ en S (S + 1)
theorem run_Al {d : Nat → Int} {n : Nat} : ∀ (j : Nat), j ≤ n → ∀ x, n - j ≤ x → x < runQ d n j → kL (d x) = true ∨ kD (d x) = true := by
  intro j
  induction j with
  | zero =>
    intro _ x h1 h2
    have e : runQ d n 0 = n := rfl
    omega
  | succ j ih =>
    intro hj x h1 h2
    have e : runQ d n (j + 1) = if kL (d (n - (j + 1))) = true ∨ kD (d (n - (j + 1))) = true then runQ d n j else n - (j + 1) := rfl
    by_cases hk : kL (d (n - (j + 1))) = true ∨ kD (d (n - (j + 1))) = true
    · rw [if_pos hk] at e
      by_cases hx : x = n - (j + 1)
      · rw [hx]; exact hk
      · exact ih (by omega) x (by omega) (by omega)
    · rw [if_neg hk] at e
      omega
/-- a NUMBER is of three digits at most -/
theorem LR.num {i lim : Nat} {σ τ : xSt} (h : LR d n lim c i σ τ) (h5 : σ 2 6 = 5) : 0 ≤ σ 2 7 ∧ σ 2 7 ≤ 999 := by
  have hc := h.lt (by omega) (by omega)
  obtain ⟨⟨-, -, t3, -, -⟩, ⟨-, c6, c7, -⟩, -⟩ := h
  obtain ⟨-, -, s, v, ⟨k3, k5, k6, k2, k1, k0⟩, y1, y2, -⟩ := t3 i hc
  obtain ⟨kk, kk3, kk5⟩ := tk_k (d := d) (n := n) (lim := lim) (p := pos d n lim i)
  rw [y1] at c6
  rw [y2] at c7
  rcases kk with e | e | e | e | e | e
  · have := k0 e
    omega
  · have := k1 e
    omega
  · have := k2 e
    omega
  · have := (k3 e).2
    omega
  · obtain ⟨a1, a2, -⟩ := kk5 e
    have a3 := (k5 e).2
    have hq : pos d n lim i ≤ n := pos_b i
    obtain ⟨q1, q2⟩ := tq_b (d := d) hq
    have hAl : Alp d (tq d n (pos d n lim i)) (tm d n (pos d n lim i)) := fun x hx => run_Al (d := d) (n := n) (n - tq d n (pos d n lim i)) (by omega) (tq d n (pos d n lim i) + x) (by omega) (by
      unfold tm at hx
      omega)
    have hd := cL_d _ hAl a1
    obtain ⟨b1, b2⟩ := nv_b _ hd
    have hp : (10 : Int) ^ (tm d n (pos d n lim i)) ≤ 1000 := by
      rcases (show tm d n (pos d n lim i) = 0 ∨ tm d n (pos d n lim i) = 1 ∨ tm d n (pos d n lim i) = 2 ∨ tm d n (pos d n lim i) = 3 by omega) with z | z | z | z <;> rw [z] <;> decide
    have a3 : v = nv d (tq d n (pos d n lim i)) (tm d n (pos d n lim i)) := a3
    rw [c7, a3]
    exact ⟨b1, by omega⟩
  · have := (k6 e).1
    omega
end
