/-! TOKENS: the class's readToken -/
theorem tw_ex (v : Int) : ∃ r : Int, (r = 0 ∨ r = 1) ∧ ∀ σ, f_Tokens_isToldWord v σ = some r := by
  have h0 : 0 ≤ slen 154 ∧ slen 154 < 1000 := by decide +kernel
  obtain ⟨N, hN⟩ : ∃ N : Nat, slen 154 = (N : Int) := ⟨(slen 154).toNat, by omega⟩
  obtain ⟨r, r1, r2⟩ := tw_4 v N 1000000 0 0 (by omega) (by omega) (by omega)
  rw [c0n] at r2
  exact ⟨r, r1, r2⟩
def Told (v : Int) : Prop := ∀ σ, f_Tokens_isToldWord v σ = some 1
/-- the class's row of a token: sort, value, place at i -/
def Row3 (σ : xSt) (i : Nat) (s v pl : Int) : Prop := σ 3 i = s ∧ σ 4 i = v ∧ σ 5 i = pl
def frA (c : Nat) (σ σ' : xSt) : Prop := ∀ a k, (a = 2 → k ≠ 4) → (a = 3 ∨ a = 4 ∨ a = 5 → k ≠ c) → σ' a k = σ a k
theorem x_tadd {σ : xSt} {c : Nat} (h : σ 2 4 = (c : Int)) (hc : c ≤ 640) (s v pl : Int) : ∃ σ', f_Tokens_add s v pl σ = some σ' ∧ σ' 2 4 = ((c + 1 : Nat) : Int) ∧ Row3 σ' c s v pl ∧ frA c σ σ' := by
  have c1 : 0 ≤ (c : Int) ∧ (c : Int) < 641 := by omega
  have n1 : c < 100000 := by omega
  refine ⟨upS (upS (upS (upS σ 3 c s) 4 c v) 5 c pl) 2 4 ((c + 1 : Nat) : Int), ?_, upS_eq, ⟨?_, ?_, ?_⟩, fun a k z1 z2 => ?_⟩
  · unfold f_Tokens_add
    rw [h, x_isWithin, if_pos c1, xbR_s, if_neg (by decide), if_pos c1, Int.toNat_natCast, xlet_s, upS_ne (by decide), h, if_pos c1, Int.toNat_natCast, xlet_s, upS_ne (by decide), upS_ne (by decide), h, if_pos c1, Int.toNat_natCast, xlet_s, upS_ne (by decide), upS_ne (by decide), upS_ne (by decide), h, w32_n1 n1, xlet_s]
  · rw [upS_ne (by decide), upS_ne (by decide), upS_ne (by decide), upS_eq]
  · rw [upS_ne (by decide), upS_ne (by decide), upS_eq]
  · rw [upS_ne (by decide), upS_eq]
  · rw [upS_rd, if_neg (fun y => z1 y.1 y.2), upS_rd, if_neg (fun y => z2 (Or.inr (Or.inr y.1)) y.2), upS_rd, if_neg (fun y => z2 (Or.inr (Or.inl y.1)) y.2), upS_rd, if_neg (fun y => z2 (Or.inl y.1) y.2)]
/-- what the class writes for a token of kind k that starts at q -/
def RecK (d : Nat → Int) (n q k : Nat) (s v : Int) : Prop :=
  (k = 3 → v = lv 32 d q (runQ d n (n - q) - q) ∧ (Told v ∧ s = 3 ∨ ¬ Told v ∧ s = 4)) ∧ (k = 5 → s = 5 ∧ v = nv d q (runQ d n (n - q) - q)) ∧ (k = 6 → s = 6 ∧ v = d q) ∧ (k = 2 → s = 2) ∧ (k = 1 → s = 1) ∧ (k = 0 → s = 0)
/-- kind and end of a token that starts at q, which is no space -/
def kq (d : Nat → Int) (n q : Nat) : Nat := if kL (d q) = true ∨ kD (d q) = true then (if cD d q (runQ d n (n - q) - q) = 0 ∧ runQ d n (n - q) - q ≤ 6 then 3 else if cL d q (runQ d n (n - q) - q) = 0 ∧ runQ d n (n - q) - q ≤ 3 then 5 else 2) else if kS (d q) = true then 6 else 2
def eq' (d : Nat → Int) (n q : Nat) : Nat := if kL (d q) = true ∨ kD (d q) = true then runQ d n (n - q) else q + 1
theorem x_rrun {d : Nat → Int} {n q c : Nat} {σ : xSt} (hT : TapX d n σ) (hq : q < n) (hk : kL (d q) = true ∨ kD (d q) = true) (hc : σ 2 4 = (c : Int)) (hc2 : c ≤ 640) :
    ∃ (σ' : xSt) (s v : Int), f_Tokens_readRun (q : Int) (n : Int) σ = some ((runQ d n (n - q) : Int), σ') ∧ RecK d n q (kq d n q) s v ∧ Row3 σ' c s v (q : Int) ∧ σ' 2 4 = ((c + 1 : Nat) : Int) ∧ frA c σ σ' := by
  have hr := runQ_1 hq hk
  have h640 := hT.1
  obtain ⟨m, v, w, r1, r2, r3, r4, r5, r6⟩ := x_run14 (q := q) hT (n - q) 1000000 0 0 0 (by omega) (by omega) (fun i hi => absurd hi (Nat.not_lt_zero _)) (fun _ _ => rfl) (fun _ _ => rfl)
  have hm : runQ d n (n - q) - q = m := by omega
  have cld := cLD (d := d) (q := q) m
  have hm1 : 1 ≤ m := by omega
  obtain ⟨cn1, cn2⟩ := cnt_1 (d := d) (q := q) m hm1
  have start : f_Tokens_readRun (q : Int) (n : Int) σ = f_Tokens_readRun_92 (q : Int) (cL d q m : Int) (cD d q m : Int) v w ((q + m : Nat) : Int) σ := by
    rw [← r1]
    rfl
  have fin : ∀ s x : Int, (∀ s', f_Tokens_add s x (q : Int) σ = some s' → f_Tokens_readRun (q : Int) (n : Int) σ = some (((q + m : Nat) : Int), s')) → RecK d n q (kq d n q) s x → ∃ (σ' : xSt) (s v : Int), f_Tokens_readRun (q : Int) (n : Int) σ = some ((runQ d n (n - q) : Int), σ') ∧ RecK d n q (kq d n q) s v ∧ Row3 σ' c s v (q : Int) ∧ σ' 2 4 = ((c + 1 : Nat) : Int) ∧ frA c σ σ' := fun s x h1 h2 => by
    obtain ⟨s', a1, a2, a3, a4⟩ := x_tadd hc hc2 s x (q : Int)
    exact ⟨s', s, x, by rw [h1 s' a1, r2], h2, a3, a2, a4⟩
  have ekq : kq d n q = (if cD d q m = 0 ∧ m ≤ 6 then 3 else if cL d q m = 0 ∧ m ≤ 3 then 5 else 2) := by
    unfold kq
    rw [if_pos hk, hm]
  have bad : ¬ (cD d q m = 0 ∧ m ≤ 6) → ¬ (cL d q m = 0 ∧ m ≤ 3) → f_Tokens_readRun_92 (q : Int) (cL d q m : Int) (cD d q m : Int) v w ((q + m : Nat) : Int) σ = f_Tokens_readRun_147 (q : Int) ((q + m : Nat) : Int) σ := fun z1 z2 => by
    have e126 : f_Tokens_readRun_126 (q : Int) (cL d q m : Int) (cD d q m : Int) w ((q + m : Nat) : Int) σ = f_Tokens_readRun_147 (q : Int) ((q + m : Nat) : Int) σ := by
      unfold f_Tokens_readRun_126
      by_cases h0 : cL d q m = 0
      · rw [if_pos (by omega), if_pos (by omega)]
      · rw [if_neg (by omega)]
    unfold f_Tokens_readRun_92
    by_cases h0 : cD d q m = 0
    · rw [if_pos (by omega), if_pos (by omega), e126]
    · rw [if_neg (by omega), e126]
  by_cases h3 : cD d q m = 0 ∧ m ≤ 6
  · rw [if_pos h3] at ekq
    have hv := r5 h3.1 h3.2
    obtain ⟨r, q1, q2⟩ := tw_ex v
    have e92 : f_Tokens_readRun_92 (q : Int) (cL d q m : Int) (cD d q m : Int) v w ((q + m : Nat) : Int) σ = (if r = 0 then (f_Tokens_readRun_117 (q : Int) v ((q + m : Nat) : Int) 4 σ) else (f_Tokens_readRun_117 (q : Int) v ((q + m : Nat) : Int) 3 σ)) := by
      unfold f_Tokens_readRun_92
      rw [if_pos (by omega), if_neg (by omega), q2, xbR_s]
    rcases q1 with rfl | rfl
    · rw [if_pos rfl] at e92
      refine fin 4 v (fun s' h => ?_) ?_
      · rw [start, e92]
        unfold f_Tokens_readRun_117
        rw [h, xbR_s]
      · rw [ekq]
        refine ⟨fun _ => ⟨by rw [hm]; exact hv, Or.inr ⟨fun z => ?_, rfl⟩⟩, fun z => by omega, fun z => by omega, fun z => by omega, fun z => by omega, fun z => by omega⟩
        have := (q2 z0).symm.trans (z z0)
        cases this
    · rw [if_neg (by decide)] at e92
      refine fin 3 v (fun s' h => ?_) ?_
      · rw [start, e92]
        unfold f_Tokens_readRun_117
        rw [h, xbR_s]
      · rw [ekq]
        exact ⟨fun _ => ⟨by rw [hm]; exact hv, Or.inl ⟨q2, rfl⟩⟩, fun z => by omega, fun z => by omega, fun z => by omega, fun z => by omega, fun z => by omega⟩
  · rw [if_neg h3] at ekq
    by_cases h5 : cL d q m = 0 ∧ m ≤ 3
    · rw [if_pos h5] at ekq
      refine fin 5 w (fun s' h => ?_) ?_
      · rw [start]
        unfold f_Tokens_readRun_92
        rw [if_neg (by omega)]
        unfold f_Tokens_readRun_126
        rw [if_pos (by omega), if_neg (by omega), h, xbR_s]
      · rw [ekq]
        exact ⟨fun z => by omega, fun _ => ⟨rfl, by rw [hm]; exact r6 h5.1 h5.2⟩, fun z => by omega, fun z => by omega, fun z => by omega, fun z => by omega⟩
    · rw [if_neg h5] at ekq
      refine fin 2 0 (fun s' h => ?_) ?_
      · rw [start, bad h3 h5]
        unfold f_Tokens_readRun_147
        rw [h, xbR_s]
      · rw [ekq]
        exact ⟨fun z => by omega, fun z => by omega, fun z => by omega, fun _ => rfl, fun z => by omega, fun z => by omega⟩
