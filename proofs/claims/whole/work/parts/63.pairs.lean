/-! a call that takes a ROW and tells bits; pairs -/
def S_tb : xZ := [(0, [3, 7, 17, 18]), (96, [6]), (97, []), (102, [1]), (110, []), (111, [10, 23, 48, 66, 69]), (124, []), (136, [])]
theorem told_bits {σ σ' : xSt} {l : List Int} (hp : C_told σ) (ha : Ag S_tb σ σ') (hX : XB σ' l) (hl : l.length ≤ 600) (h1 : σ' 111 45 = 1) (h2 : σ' 111 43 = (l.length : Int)) (h3 : ∀ i : Nat, i < l.length → σ' 127 i = l.getD i 0) : C_told σ' := by
  obtain ⟨t1, t2, t3, t4, -, t6, t7, t8⟩ := hp
  obtain ⟨x1, x2⟩ := hX
  unfold C_told
  rw [ha 0 3 rfl, ha 111 10 rfl, ha 0 7 rfl, ha 111 23 rfl, ha 96 6 rfl, ha 102 1 rfl, ha 111 48 rfl, ha 0 18 rfl, ha 111 69 rfl, ha 0 17 rfl, ha 111 66 rfl]
  simp only [fun k => ha 124 k rfl, fun k => ha 97 k rfl, fun k => ha 110 k rfl, fun k => ha 136 k rfl]
  refine ⟨t1, t2, t3, t4, Or.inr ⟨h1, by rw [x1, h2], by rw [x1]; omega, by rw [x1]; omega, fun k hk => ?_⟩, t6, t7, t8⟩
  rw [x1] at hk
  rw [x2 k (by omega), h3 k (by omega)]
theorem bits_row {n : Nat} {lo hi : Int} {fx fm : xSt → Option (Int × xSt)} {gx gm : Int → xSt → Option (Int × xSt)} {SX SM : xZ} (hlo : 0 ≤ lo) (hhi : hi ≤ 600)
    (ex : ∀ σ, fx σ = xbW (f_X_takeRow lo hi σ) fun v s => if v = -1 then some (-1, s) else gx v s)
    (em : ∀ σ, fm σ = xlet (upS σ 111 0 0) fun s => xbW (f_M_takeRow lo hi s) fun v s => if v = -1 then some (-1, s) else gm v s)
    (fX : ∀ {σ : xSt} {r : Int × xSt}, fx σ = some r → Fr SX σ r.2) (fM : ∀ {σ : xSt} {r : Int × xSt}, fm σ = some r → Fr SM σ r.2)
    (d1 : disL (S_tab ++ (S_way ++ (S_sen ++ (S_img ++ (S_tb ++ (S_run ++ S_best)))))) (SX ++ SM) = true) (d2 : disL [(111, [2]), (112, [])] SX = true) (d3 : disL [(0, [1]), (99, [1]), (100, [])] SM = true)
    (m1 : subL SX (SX ++ SM) = true) (m2 : subL SM (SX ++ SM) = true)
    (main : ∀ (L : Nat) (σx : xSt), lo ≤ (L : Int) → (L : Int) ≤ hi → (∀ k : Nat, k < L → σx 98 k = 0 ∨ σx 98 k = 1) → ∃ σ1 l, gx (L : Int) σx = some ((l.length : Int), σ1) ∧ XB σ1 l ∧ l.length ≤ 600 ∧ σ1 0 1 = σx 0 1 ∧
      ∀ σm : xSt, (∀ k : Nat, k < L → σm 125 k = σx 98 k) → σm 111 44 = 0 → ∃ σ2, gm (L : Int) σm = (xbW (f_M_tellBits σ2) fun r s => some (r, s)) ∧ MB σ2 l ∧ σ2 111 2 = σm 111 2) : SimW (InvN (n + 1)) (InvN n) fx fm := by
  refine simW0 (fun σ h => ?_)
  obtain ⟨p1, p2, p3, p4, p5, p6, p7, p8⟩ := h
  obtain ⟨v, σx, a1, a2, a3, a4⟩ := row_ok (σ := σ) (lo := lo) (hi := hi) p1 hlo hhi
  have F1 := fr_X_takeRow a1
  by_cases hv : v = -1
  · obtain ⟨σm, b1, b2, -, b3⟩ := a4 (upS σx 111 0 0) (F1 111 2 rfl) (fun k => F1 112 k rfl)
    have F2 := fr_M_takeRow b1
    have F : Fr (s_X_takeRow ++ ((111, [0]) :: s_M_takeRow)) σ σm := Fr.call (Fr.up (Fr.mono F1 rfl) rfl rfl) F2 rfl
    refine ⟨-1, σx, σm, ?_, ?_, ⟨tape0 ?_ b2, p2.ag (F.ag rfl), p3.ag (F.ag rfl), p4.ag (F.ag rfl), p5.ag (F.ag rfl), p6.ag (F.ag rfl), p7.ag (F.ag rfl), p8.ag (F.ag rfl)⟩, F 0 7 rfl⟩
    · rw [ex, a1, xbW_s, if_pos hv]
    · rw [em, xlet_s, b1, xbW_s, if_pos hv]
    · have e : σm 0 1 = (upS σx 111 0 0) 0 1 := F2 0 1 rfl
      rw [e]
      exact a2
  · obtain ⟨v0, v1, v2⟩ := a3.resolve_left hv
    obtain ⟨L, rfl⟩ : ∃ L : Nat, v = (L : Int) := ⟨v.toNat, by omega⟩
    obtain ⟨σ1, l, g1, g2, g3, g4, g5⟩ := main L σx v0 v1 (fun k hk => v2 k (by omega))
    have hX : fx σ = some ((l.length : Int), σ1) := by rw [ex, a1, xbW_s, if_neg hv, g1]
    have FX := fX hX
    have A2 := FX.ag d2
    obtain ⟨σm, b1, b2, b4, b3⟩ := a4 (upS σ1 111 0 0) (by rw [upS_rd, if_neg (by omega)]; exact A2 111 2 rfl) (fun k => by rw [upS_rd, if_neg (by omega)]; exact A2 112 k rfl)
    obtain ⟨σ2, c1, c2, c3⟩ := g5 σm (fun k hk => b3 k (by omega)) (b4 hv)
    obtain ⟨σ3, e1, e2, e3, e4, e5⟩ := m_tell c2 (by omega)
    have hM : fm σ1 = some ((l.length : Int), σ3) := by rw [em, xlet_s, b1, xbW_s, if_neg hv, c1, e1, xbW_s]
    have FM := fM hM
    have A3 := FM.ag d3
    have F : Fr (SX ++ SM) σ σ3 := Fr.call (Fr.mono FX m1) FM m2
    have A := F.ag d1
    refine ⟨(l.length : Int), σ1, σ3, hX, hM, ⟨tape0 ?_ ?_, p2.ag A.l, p3.ag A.r.l, p4.ag A.r.r.l, p5.ag A.r.r.r.l, told_bits (l := l) p6 A.r.r.r.r.l ?_ g3 e2 e3 e5, p7.ag A.r.r.r.r.r.l, p8.ag A.r.r.r.r.r.r⟩, A.r.r.r.r.l 0 7 rfl⟩
    · have e : σ3 0 1 = σ1 0 1 := A3 0 1 rfl
      rw [e, g4, a2]
    · rw [e4, c3, b2]
    · refine ⟨?_, fun i hi => ?_⟩
      · have e : σ3 99 1 = σ1 99 1 := A3 99 1 rfl
        rw [e, g2.1]
      · have e : σ3 100 i = σ1 100 i := A3 100 i rfl
        rw [e, g2.2 i hi]
theorem prL_cg {g g' : Nat → Int} : ∀ (k o : Nat), (∀ j : Nat, o ≤ j → j < o + 2 * k → g j = g' j) → prL g o k = prL g' o k := by
  intro k
  induction k with
  | zero => exact fun _ _ => rfl
  | succ k ih =>
    intro o h
    have e1 : prL g o (k + 1) = (if g o = g (o + 1) then [] else [g o]) ++ prL g (o + 2) k := Eq.trans rfl rfl
    have e2 : prL g' o (k + 1) = (if g' o = g' (o + 1) then [] else [g' o]) ++ prL g' (o + 2) k := Eq.trans rfl rfl
    rw [e1, e2, h o (by omega) (by omega), h (o + 1) (by omega) (by omega), ih (o + 2) (fun j h1 h2 => h j (by omega) (by omega))]
theorem lay98 : (lay 98).2 = 600 := rfl
theorem lay101 : (lay 101).2 = 1200 := rfl
theorem sim_pairs {n : Nat} : SimW (InvN (n + 1)) (InvN n) f_X_pairs f_M_pairs := by
  refine bits_row (lo := 0) (hi := 600) (gx := fun v s => xbW (f_Bits_byPairs v s) fun r3 σ4 => some (r3, σ4)) (gm := fun v s => xbR (f_M_pairsOf 0 v s) fun σ4 => xbW (f_M_tellBits σ4) fun r5 σ6 => some (r5, σ6)) (by decide) (by decide) (fun _ => rfl) (fun _ => rfl) (fun h => fr_X_pairs h) (fun h => fr_M_pairs h) rfl rfl rfl rfl rfl ?_
  intro L σx h0 h1 hb
  have hL : L ≤ 600 := by omega
  obtain ⟨σ1, g1, g2, g3⟩ := x_addPairs (A := 98) (c := 600) lay98 (by decide) (by decide) (o := 0) (size := L) (by omega) (by omega) (l := []) (σ := upS σx 99 1 0) ⟨rfl, fun i hi => absurd hi (Nat.not_lt_zero _)⟩ (by show 0 + L / 2 ≤ 600; omega) (fun j _ hj => hb j (by omega))
  have hlen := prL_len (g := upS σx 99 1 0 98) (L / 2) 0
  refine ⟨σ1, _, ?_, g2, ?_, g3 0 1 (by decide) (by decide), fun σm hm h44 => ?_⟩
  · have e1 : f_Bits_byPairs (L : Int) σx = some (σ1 99 1, σ1) := by
      unfold f_Bits_byPairs
      rw [c0n] at g1
      rw [xlet_s, g1, xbR_s]
    rw [e1, xbW_s, g2.1]
  · rw [List.nil_append]
    omega
  · obtain ⟨σ2, k1, k2, k3⟩ := m_pairsOf (o := 0) (size := L) (by omega) (l := []) (σ := σm) ⟨h44, fun i hi => absurd hi (Nat.not_lt_zero _)⟩ (by show 0 + L / 2 ≤ 1300; omega) (fun j _ hj => by rw [hm j (by omega)]; exact hb j (by omega))
    refine ⟨σ2, ?_, ?_, k3 111 2 (by decide) (fun _ => by decide)⟩
    · rw [c0n] at k1
      rw [k1, xbR_s]
    · rw [prL_cg (g' := upS σx 99 1 0 98) (L / 2) 0 (fun j _ hj => hm j (by omega))] at k2
      exact k2
