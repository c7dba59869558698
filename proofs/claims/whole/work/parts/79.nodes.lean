/-! fractions that are alike; NODES that come behind the others, both sides -/
theorem upS_ne {σ : xSt} {a k b j : Nat} {v : Int} (h : b ≠ a) : upS σ a k v b j = σ b j := by
  rw [upS_rd, if_neg (fun z => h z.1)]
theorem upS_nk {σ : xSt} {a k b j : Nat} {v : Int} (h : j ≠ k) : upS σ a k v b j = σ b j := by
  rw [upS_rd, if_neg (fun z => h z.2)]
theorem upS_eq {σ : xSt} {a k : Nat} {v : Int} : upS σ a k v a k = v := by
  rw [upS_rd, if_pos ⟨rfl, rfl⟩]
theorem inS_no {S : xZ} {a k : Nat} (h : ∀ e ∈ S, e.1 ≠ a) : inS S a k = false := by
  cases hs : inS S a k with
  | false => rfl
  | true =>
    obtain ⟨e, he, h1, -⟩ := inS_of hs
    exact absurd h1.symm (h e he)
theorem rdI_mul {u : Int} {b c : Nat} {what : Int} (hc : 0 < c) : rdI (u * (c : Int)) (b * c) what = rdI u b what := by
  have e : (u * (c : Int)).natAbs = u.natAbs * c := by rw [Int.natAbs_mul, Int.natAbs_natCast]
  unfold rdI
  rw [e, Nat.gcd_mul_right, Int.natCast_mul, Int.natCast_mul]
  split
  · exact Int.mul_tdiv_mul_of_pos_left _ _ (by omega)
  · exact Int.mul_tdiv_mul_of_pos_left _ _ (by omega)
theorem rdI_eq {u v : Int} {b d : Nat} {what : Int} (hb : 0 < b) (hd : 0 < d) (h : u * (d : Int) = v * (b : Int)) : rdI u b what = rdI v d what := by
  rw [← rdI_mul (u := u) (b := b) hd, ← rdI_mul (u := v) (b := d) hb, h, Nat.mul_comm b d]
def waT (w : Nat) (l3 l4 l5 : Int) (σ : xSt) : Option (Int × xSt) :=
  xbR (f_Way_hasNode w l3 σ) fun r10 =>
    if r10 = 0 then (some (l5, σ))
    else (xbR (f_X_isWithin l4 6 σ) fun r11 =>
    if r11 = 0 then (some (l5, σ))
    else (if 0 ≤ w32 ((w32 (l3 * 6)) + l4) ∧ w32 ((w32 (l3 * 6)) + l4) < 480 then (
    xlet (upS σ (w + 5) (w32 ((w32 (l3 * 6)) + l4)).toNat l5) fun σ12 =>
    some (l5, σ12)) else none))
theorem x_wadd64 {w k : Nat} {fr sd : Int} (hk : k < 80) : ∀ (j n i : Nat) (σ : xSt), i + j = 6 → j < n → ∃ σ', f_Way_add_64 w n fr sd (k : Int) (i : Int) σ = waT w fr sd (k : Int) σ' ∧ (∀ s : Nat, i ≤ s → s < 6 → σ' (w + 5) (6 * k + s) = -1) ∧ (∀ q : Nat, (q < 6 * k + i ∨ 6 * k + 6 ≤ q) → σ' (w + 5) q = σ (w + 5) q) ∧ ∀ a q, a ≠ w + 5 → σ' a q = σ a q := by
  intro j
  induction j with
  | zero =>
    intro n i σ h1 h2
    obtain ⟨n, rfl⟩ : ∃ n2, n = n2 + 1 := ⟨n - 1, by omega⟩
    refine ⟨σ, ?_, fun s a b => by omega, fun _ _ => rfl, fun _ _ _ => rfl⟩
    rw [f_Way_add_64.eq_2, if_neg (by omega)]
    rfl
  | succ j ih =>
    intro n i σ h1 h2
    obtain ⟨n, rfl⟩ : ∃ n2, n = n2 + 1 := ⟨n - 1, by omega⟩
    have b1 : (i : Int) < 6 := by omega
    have b3 : i < 100000 := by omega
    have b4 : 0 ≤ ((6 * k + i : Nat) : Int) ∧ ((6 * k + i : Nat) : Int) < 480 := by omega
    have e1 : w32 ((k : Int) * 6) = ((6 * k : Nat) : Int) := (w32_o (by omega) (by omega)).trans (by omega)
    have e2 : w32 (((6 * k : Nat) : Int) + (i : Int)) = ((6 * k + i : Nat) : Int) := (w32_o (by omega) (by omega)).trans (by omega)
    obtain ⟨σ', k1, k2, k3, k4⟩ := ih n (i + 1) (upS σ (w + 5) (6 * k + i) (-1)) (by omega) (by omega)
    refine ⟨σ', ?_, fun s hs hs2 => ?_, fun q hq => ?_, fun a q ha => by rw [k4 a q ha, upS_rd, if_neg (fun z => ha z.1)]⟩
    · rw [f_Way_add_64.eq_2, if_pos b1, e1, e2, if_pos b4, Int.toNat_natCast, xlet_s, w32_n1 b3, xlet_s]
      exact k1
    · by_cases he : s = i
      · subst he
        rw [k3 _ (by omega), upS_rd, if_pos ⟨rfl, rfl⟩]
      · exact k2 s (by omega) hs2
    · rw [k3 q (by omega), upS_rd, if_neg (by omega)]
theorem x_wadd {w n : Nat} {σ : xSt} (hn : σ w 0 = (n : Int)) (h80 : n < 80) (so wh fr : Int) {sd : Nat} (hsd : sd < 6) (hfr : fr < (n : Int)) : ∃ σ', f_Way_add w so wh fr (sd : Int) σ = some ((n : Int), σ') ∧ σ' w 0 = ((n + 1 : Nat) : Int) ∧ σ' (w + 1) n = so ∧ σ' (w + 2) n = wh ∧ σ' (w + 3) n = fr ∧ σ' (w + 4) n = (sd : Int) ∧
    (∀ s : Nat, s < 6 → σ' (w + 5) (6 * n + s) = -1) ∧ (0 ≤ fr → σ' (w + 5) (6 * fr.toNat + sd) = (n : Int)) ∧
    (∀ k : Nat, k ≠ n → σ' (w + 1) k = σ (w + 1) k ∧ σ' (w + 2) k = σ (w + 2) k ∧ σ' (w + 3) k = σ (w + 3) k ∧ σ' (w + 4) k = σ (w + 4) k) ∧
    (∀ q : Nat, (q < 6 * n ∨ 6 * n + 6 ≤ q) → (0 ≤ fr → q ≠ 6 * fr.toNat + sd) → σ' (w + 5) q = σ (w + 5) q) ∧ (∀ q : Nat, q ≠ 0 → σ' w q = σ w q) ∧ ∀ a q, (a < w ∨ w + 5 < a) → σ' a q = σ a q := by
  obtain ⟨σ1, a1, a2, a3, a4⟩ := x_wadd64 (w := w) (fr := fr) (sd := (sd : Int)) h80 6 1000000 0 (upS (upS (upS (upS (upS σ w 0 ((n + 1 : Nat) : Int)) (w + 1) n so) (w + 2) n wh) (w + 3) n fr) (w + 4) n (sd : Int)) (by omega) (by omega)
  rw [c0n] at a1
  have b2 : 0 ≤ (n : Int) ∧ (n : Int) < 80 := by omega
  have b3 : n < 100000 := by omega
  have hA : f_Way_add w so wh fr (sd : Int) σ = waT w fr (sd : Int) (n : Int) σ1 := by
    unfold f_Way_add
    rw [hn, xlet_s, x_isWithin, if_pos b2, xbR_s, if_neg (by decide), w32_n1 b3, xlet_s, if_pos b2, Int.toNat_natCast, xlet_s, if_pos b2, xlet_s, if_pos b2, xlet_s, if_pos b2, xlet_s, a1]
  have w0 : σ1 w 0 = ((n + 1 : Nat) : Int) := by
    rw [a4 w 0 (by omega), upS_rd, if_neg (by omega), upS_rd, if_neg (by omega), upS_rd, if_neg (by omega), upS_rd, if_neg (by omega), upS_rd, if_pos ⟨rfl, rfl⟩]
  have wq : ∀ q : Nat, q ≠ 0 → σ1 w q = σ w q := fun q hq => by
    rw [a4 w q (by omega), upS_rd, if_neg (by omega), upS_rd, if_neg (by omega), upS_rd, if_neg (by omega), upS_rd, if_neg (by omega), upS_rd, if_neg (by omega)]
  have w1 : ∀ k, σ1 (w + 1) k = if k = n then so else σ (w + 1) k := fun k => by
    rw [a4 _ k (by omega), upS_rd, if_neg (by omega), upS_rd, if_neg (by omega), upS_rd, if_neg (by omega), upS_rd]
    by_cases hk : k = n
    · rw [if_pos hk, if_pos ⟨rfl, hk⟩]
    · rw [if_neg hk, if_neg (fun z => hk z.2), upS_rd, if_neg (by omega)]
  have w2 : ∀ k, σ1 (w + 2) k = if k = n then wh else σ (w + 2) k := fun k => by
    rw [a4 _ k (by omega), upS_rd, if_neg (by omega), upS_rd, if_neg (by omega), upS_rd]
    by_cases hk : k = n
    · rw [if_pos hk, if_pos ⟨rfl, hk⟩]
    · rw [if_neg hk, if_neg (fun z => hk z.2), upS_rd, if_neg (by omega), upS_rd, if_neg (by omega)]
  have w3 : ∀ k, σ1 (w + 3) k = if k = n then fr else σ (w + 3) k := fun k => by
    rw [a4 _ k (by omega), upS_rd, if_neg (by omega), upS_rd]
    by_cases hk : k = n
    · rw [if_pos hk, if_pos ⟨rfl, hk⟩]
    · rw [if_neg hk, if_neg (fun z => hk z.2), upS_rd, if_neg (by omega), upS_rd, if_neg (by omega), upS_rd, if_neg (by omega)]
  have w4 : ∀ k, σ1 (w + 4) k = if k = n then (sd : Int) else σ (w + 4) k := fun k => by
    rw [a4 _ k (by omega), upS_rd]
    by_cases hk : k = n
    · rw [if_pos hk, if_pos ⟨rfl, hk⟩]
    · rw [if_neg hk, if_neg (fun z => hk z.2), upS_rd, if_neg (by omega), upS_rd, if_neg (by omega), upS_rd, if_neg (by omega), upS_rd, if_neg (by omega)]
  have wz : ∀ a q, (a < w ∨ w + 5 < a) → σ1 a q = σ a q := fun a q ha => by
    rw [a4 a q (by omega), upS_rd, if_neg (by omega), upS_rd, if_neg (by omega), upS_rd, if_neg (by omega), upS_rd, if_neg (by omega), upS_rd, if_neg (by omega)]
  have w5 : ∀ q : Nat, (q < 6 * n ∨ 6 * n + 6 ≤ q) → σ1 (w + 5) q = σ (w + 5) q := fun q hq => by
    rw [a3 q (by omega), upS_rd, if_neg (by omega), upS_rd, if_neg (by omega), upS_rd, if_neg (by omega), upS_rd, if_neg (by omega), upS_rd, if_neg (by omega)]
  have hh : f_Way_hasNode w fr σ1 = some (if 0 ≤ fr ∧ fr < ((n + 1 : Nat) : Int) then 1 else 0) := by
    rw [x_hasNode (by rw [w0]; omega), w0]
  by_cases h0 : 0 ≤ fr
  · have b5 : 0 ≤ ((6 * fr.toNat + sd : Nat) : Int) ∧ ((6 * fr.toNat + sd : Nat) : Int) < 480 := by omega
    have e1 : w32 (fr * 6) = ((6 * fr.toNat : Nat) : Int) := (w32_o (by omega) (by omega)).trans (by omega)
    have e2 : w32 (((6 * fr.toNat : Nat) : Int) + (sd : Int)) = ((6 * fr.toNat + sd : Nat) : Int) := (w32_o (by omega) (by omega)).trans (by omega)
    have k1 : ∀ a q, a ≠ w + 5 → (upS σ1 (w + 5) (6 * fr.toNat + sd) (n : Int)) a q = σ1 a q := fun a q ha => by rw [upS_rd, if_neg (fun z => ha z.1)]
    refine ⟨upS σ1 (w + 5) (6 * fr.toNat + sd) (n : Int), ?_, ?_, ?_, ?_, ?_, ?_, ?_, ?_, ?_, ?_, ?_, ?_⟩
    · rw [hA]
      unfold waT
      rw [hh, if_pos (by omega), xbR_s, if_neg (by decide), x_isWithin, if_pos (by omega), xbR_s, if_neg (by decide), e1, e2, if_pos b5, Int.toNat_natCast, xlet_s]
    · rw [k1 _ _ (by omega), w0]
    · rw [k1 _ _ (by omega), w1, if_pos rfl]
    · rw [k1 _ _ (by omega), w2, if_pos rfl]
    · rw [k1 _ _ (by omega), w3, if_pos rfl]
    · rw [k1 _ _ (by omega), w4, if_pos rfl]
    · intro s hs
      rw [upS_rd, if_neg (by omega), a2 s (by omega) hs]
    · intro _
      rw [upS_rd, if_pos ⟨rfl, rfl⟩]
    · intro k hk
      rw [k1 _ _ (by omega), k1 _ _ (by omega), k1 _ _ (by omega), k1 _ _ (by omega), w1, w2, w3, w4, if_neg hk, if_neg hk, if_neg hk, if_neg hk]
      exact ⟨rfl, rfl, rfl, rfl⟩
    · intro q h1 h2
      rw [upS_rd, if_neg (fun z => h2 h0 z.2), w5 q h1]
    · intro q hq
      rw [k1 _ _ (by omega), wq q hq]
    · intro a q ha
      rw [k1 _ _ (by omega), wz a q ha]
  · refine ⟨σ1, ?_, w0, ?_, ?_, ?_, ?_, fun s hs => a2 s (by omega) hs, fun z => absurd z h0, fun k hk => ?_, fun q h1 _ => w5 q h1, wq, wz⟩
    · rw [hA]
      unfold waT
      rw [hh, if_neg (by omega), xbR_s, if_pos rfl]
    · rw [w1, if_pos rfl]
    · rw [w2, if_pos rfl]
    · rw [w3, if_pos rfl]
    · rw [w4, if_pos rfl]
    · rw [w1, w2, w3, w4, if_neg hk, if_neg hk, if_neg hk, if_neg hk]
      exact ⟨rfl, rfl, rfl, rfl⟩
theorem m_lays27 {k : Nat} (hk : k < 80) : ∀ (j n i : Nat) (σ : xSt), i + j = 6 → j < n → ∃ σ', f_M_lays_27 n ((8 * k : Nat) : Int) (i : Int) σ = some (w32 ((w32 (σ 111 25 + 1)) - 1), σ') ∧ σ' 111 25 = w32 (σ 111 25 + 1) ∧ (∀ s : Nat, i ≤ s → s < 6 → σ' 115 (8 * k + 2 + s) = -1) ∧ (∀ q : Nat, (q < 8 * k + 2 + i ∨ 8 * k + 8 ≤ q) → σ' 115 q = σ 115 q) ∧ ∀ a q, a ≠ 115 → (a = 111 → q ≠ 25) → σ' a q = σ a q := by
  intro j
  induction j with
  | zero =>
    intro n i σ h1 h2
    obtain ⟨n, rfl⟩ : ∃ n2, n = n2 + 1 := ⟨n - 1, by omega⟩
    refine ⟨upS σ 111 25 (w32 (σ 111 25 + 1)), ?_, ?_, fun s a b => by omega, fun q _ => ?_, fun a q h1 h2 => ?_⟩
    · rw [f_M_lays_27.eq_2, if_neg (by omega), xlet_s, upS_rd, if_pos ⟨rfl, rfl⟩]
    · rw [upS_rd, if_pos ⟨rfl, rfl⟩]
    · rw [upS_rd, if_neg (by omega)]
    · rw [upS_rd, if_neg (fun z => h2 z.1 z.2)]
  | succ j ih =>
    intro n i σ h1 h2
    obtain ⟨n, rfl⟩ : ∃ n2, n = n2 + 1 := ⟨n - 1, by omega⟩
    have b1 : (i : Int) < 6 := by omega
    have b3 : i < 100000 := by omega
    have b4 : 0 ≤ ((8 * k + 2 + i : Nat) : Int) ∧ ((8 * k + 2 + i : Nat) : Int) < 640 := by omega
    have e1 : w32 (((8 * k : Nat) : Int) + 2) = ((8 * k + 2 : Nat) : Int) := w32_n2 (by omega)
    have e2 : w32 (((8 * k + 2 : Nat) : Int) + (i : Int)) = ((8 * k + 2 + i : Nat) : Int) := w32_nn (by omega)
    obtain ⟨σ', k1, k2, k3, k4, k5⟩ := ih n (i + 1) (upS σ 115 (8 * k + 2 + i) (-1)) (by omega) (by omega)
    have k0 : (upS σ 115 (8 * k + 2 + i) (-1)) 111 25 = σ 111 25 := by rw [upS_rd, if_neg (by omega)]
    rw [k0] at k1 k2
    refine ⟨σ', ?_, k2, fun s hs hs2 => ?_, fun q hq => ?_, fun a q ha hb => by rw [k5 a q ha hb, upS_rd, if_neg (fun z => ha z.1)]⟩
    · rw [f_M_lays_27.eq_2, if_pos b1, e1, e2, if_pos b4, Int.toNat_natCast, xlet_s, w32_n1 b3, xlet_s]
      exact k1
    · by_cases he : s = i
      · subst he
        rw [k4 _ (by omega), upS_rd, if_pos ⟨rfl, rfl⟩]
      · exact k3 s (by omega) hs2
    · rw [k4 q (by omega), upS_rd, if_neg (by omega)]
theorem m_lays {n : Nat} {σ : xSt} (hn : σ 111 25 = (n : Int)) (h80 : n < 80) (so wh : Int) : ∃ σ', f_M_lays so wh σ = some ((n : Int), σ') ∧ σ' 111 25 = ((n + 1 : Nat) : Int) ∧ σ' 115 (8 * n) = so ∧ σ' 115 (8 * n + 1) = wh ∧ (∀ s : Nat, s < 6 → σ' 115 (8 * n + 2 + s) = -1) ∧
    (∀ q : Nat, (q < 8 * n ∨ 8 * n + 8 ≤ q) → σ' 115 q = σ 115 q) ∧ ∀ a q, a ≠ 115 → (a = 111 → q ≠ 25) → σ' a q = σ a q := by
  have b2 : 0 ≤ ((8 * n : Nat) : Int) ∧ ((8 * n : Nat) : Int) < 640 := by omega
  have b4 : 0 ≤ ((8 * n + 1 : Nat) : Int) ∧ ((8 * n + 1 : Nat) : Int) < 640 := by omega
  have b3 : n < 100000 := by omega
  have b5 : 8 * n < 100000 := by omega
  have e3 : w32 (((n + 1 : Nat) : Int) - 1) = (n : Int) := (w32_o (by omega) (by omega)).trans (by omega)
  have e0 : w32 (8 * (n : Int)) = ((8 * n : Nat) : Int) := (w32_o (by omega) (by omega)).trans (by omega)
  obtain ⟨σ', a1, a2, a3, a4, a5⟩ := m_lays27 h80 6 1000000 0 (upS (upS σ 115 (8 * n) so) 115 (8 * n + 1) wh) (by omega) (by omega)
  have k0 : (upS (upS σ 115 (8 * n) so) 115 (8 * n + 1) wh) 111 25 = (n : Int) := by rw [upS_rd, if_neg (by omega), upS_rd, if_neg (by omega), hn]
  rw [k0, w32_n1 b3] at a2
  rw [k0, w32_n1 b3, e3, c0n] at a1
  refine ⟨σ', ?_, a2, ?_, ?_, fun s hs => a3 s (by omega) hs, fun q hq => ?_, fun a q ha hb => ?_⟩
  · unfold f_M_lays
    rw [hn, e0, xlet_s, if_pos b2, Int.toNat_natCast, xlet_s, w32_n1 b5, if_pos b4, Int.toNat_natCast, xlet_s, a1]
  · rw [a4 _ (by omega), upS_rd, if_neg (by omega), upS_rd, if_pos ⟨rfl, rfl⟩]
  · rw [a4 _ (by omega), upS_rd, if_pos ⟨rfl, rfl⟩]
  · rw [a4 _ (by omega), upS_rd, if_neg (by omega), upS_rd, if_neg (by omega)]
  · rw [a5 a q ha hb, upS_rd, if_neg (fun z => ha z.1), upS_rd, if_neg (fun z => ha z.1)]
