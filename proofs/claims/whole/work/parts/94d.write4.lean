/-! write: the call -/
def S_tw : xZ := [(0, [3, 7, 18]), (96, [6]), (97, []), (99, [1]), (100, []), (102, [1]), (111, [10, 23, 43, 45, 48, 69]), (124, []), (127, [])]
theorem told_wr {σ σ' : xSt} (hp : C_told σ) (ha : Ag S_tw σ σ') (h1 : σ' 0 17 = σ' 111 66 ∧ 0 ≤ σ' 0 17 ∧ σ' 0 17 ≤ 600 ∧ ∀ k : Nat, (k : Int) < σ' 0 17 → σ' 110 k = σ' 136 k) : C_told σ' := by
  obtain ⟨t1, t2, t3, t4, t5, t6, t7, -⟩ := hp
  unfold C_told
  rw [ha 0 3 rfl, ha 111 10 rfl, ha 0 7 rfl, ha 111 23 rfl, ha 96 6 rfl, ha 102 1 rfl, ha 111 48 rfl, ha 0 18 rfl, ha 111 69 rfl, ha 111 45 rfl, ha 111 43 rfl, ha 99 1 rfl]
  simp only [fun k => ha 124 k rfl, fun k => ha 97 k rfl, fun k => ha 100 k rfl, fun k => ha 127 k rfl]
  exact ⟨t1, t2, t3, t4, t5, t6, t7, h1⟩
def s_wr : xZ := [(0, [17]), (110, []), (111, [0, 66]), (136, []), (137, [])]
theorem inv_wr {G M : xSt} (h : Inv0 G) (F : Fr s_wr G M) (ht : M 0 17 = M 111 66 ∧ 0 ≤ M 0 17 ∧ M 0 17 ≤ 600 ∧ ∀ k : Nat, (k : Int) < M 0 17 → M 110 k = M 136 k) : Inv0 M := by
  obtain ⟨p1, p2, p3, p4, p5, p6, p7, p8⟩ := h
  exact ⟨p1.ag (F.ag rfl), p2.ag (F.ag rfl), p3.ag (F.ag rfl), p4.ag (F.ag rfl), p5.ag (F.ag rfl), told_wr p6 (F.ag rfl) ht, p7.ag (F.ag rfl), p8.ag (F.ag rfl)⟩
theorem sim_write {n : Nat} : SimW (InvN (n + 1)) (InvN n) f_X_write f_M_write := by
  refine simW0 (fun σ h => ?_)
  have h80 := h.nodes
  by_cases h0 : 0 < σ 16 0
  · obtain ⟨N, hN⟩ : ∃ N : Nat, σ 16 0 = (N : Int) := ⟨(σ 16 0).toNat, by omega⟩
    obtain ⟨hT, -, h19⟩ := h.tree h0
    obtain ⟨txt, t1, t2, t3⟩ := w_tree h 6 0 _ _ hT (by omega)
    rw [hN, Int.toNat_natCast] at t1 t2
    have hlen : txt.length ≤ 598 := by omega
    have hsep : sep σ 0 = [] := by unfold sep; rw [if_pos rfl]
    obtain ⟨σ1, a1, a2, a3⟩ := t2 0 0 (1000000 - N) σ [] ⟨h19, rfl⟩ (by decide) (fun _ _ _ _ => rfl) (fun i hi => absurd hi (Nat.not_lt_zero _)) (fun _ => rfl) (by
      rw [hsep]
      show 0 + 0 + txt.length + 0 ≤ 600
      omega)
    have eL : ([] : List Nat) ++ sep σ 0 ++ txt ++ List.replicate 0 41 = txt := by
      rw [hsep]
      show [] ++ [] ++ txt ++ [] = txt
      rw [List.append_nil]
      rfl
    rw [eL] at a1 a2
    have e1 : ((([] : List Nat).length : Nat) : Int) = 0 := rfl
    rw [e1, show 1000000 - N + (N - 0) = 1000000 by omega, c0n] at a1
    have e16 : σ1 16 0 = (N : Int) := by rw [a3 16 0 (by decide), hN]
    obtain ⟨g, hg⟩ : ∃ g, 1000000 - N = g + 1 := ⟨1000000 - N - 1, by omega⟩
    have e5 : f_Way_tellInto_5 (1000000 - N) ((txt.length : Nat) : Int) (N : Int) σ1 = some ((txt.length : Int), σ1) := by
      rw [hg, f_Way_tellInto_5.eq_2, e16, if_neg (Int.lt_irrefl _)]
    rw [e5] at a1
    have hX : f_X_write σ = some ((txt.length : Int), upS σ1 0 17 (txt.length : Int)) := by
      unfold f_X_write f_Way_isTold f_Way_tellInto
      rw [if_pos h0, xbR_s, if_neg (by decide), a1, xbW_s, xlet_s, upS_eq]
    obtain ⟨τ1, b1, b2, b3⟩ := t3 60 (upS (upS (upS σ1 0 17 (txt.length : Int)) 111 0 0) 111 66 0) [] (by decide) (fun q => by rw [upS_ne (by decide), upS_ne (by decide), upS_ne (by decide), a3 113 q (by decide)]) (fun q => by rw [upS_ne (by decide), upS_ne (by decide), upS_ne (by decide), a3 117 q (by decide)]) ⟨by rw [upS_eq]; rfl, fun i hi => absurd hi (Nat.not_lt_zero _)⟩ (by
      show 0 + txt.length ≤ 1000
      omega)
    rw [List.nil_append] at b2
    have b1 : f_M_putNode 60 0 (upS (upS (upS σ1 0 17 (txt.length : Int)) 111 0 0) 111 66 0) = some τ1 := b1
    have hw : f_M_hasWay (upS (upS σ1 0 17 (txt.length : Int)) 111 0 0) = some 1 := by
      unfold f_M_hasWay
      rw [upS_ne (by decide), upS_ne (by decide), a3 113 41 (by decide), ← h80.1, if_pos h0]
    have hM : f_M_write (upS σ1 0 17 (txt.length : Int)) = some ((txt.length : Int), τ1) := by
      unfold f_M_write
      rw [xlet_s, hw, xbR_s, if_neg (by decide), xlet_s, b1, xbR_s, b2.1]
    have F : Fr s_wr σ τ1 := fun a k hk => by
      have n1 : a ≠ 110 := by
        rintro rfl
        cases hk
      have n2 : a ≠ 136 := by
        rintro rfl
        cases hk
      have n3 : a ≠ 137 := by
        rintro rfl
        cases hk
      have n4 : a = 111 → k ≠ 66 := by
        rintro rfl rfl
        cases hk
      have n5 : a = 111 → k ≠ 0 := by
        rintro rfl rfl
        cases hk
      have n6 : a = 0 → k ≠ 17 := by
        rintro rfl rfl
        cases hk
      rw [b3 a k n2 n3 n4, upS_rd, if_neg (fun z => n4 z.1 z.2), upS_rd, if_neg (fun z => n5 z.1 z.2), upS_rd, if_neg (fun z => n6 z.1 z.2), a3 a k n1]
    have e17 : τ1 0 17 = (txt.length : Int) := by rw [b3 0 17 (by decide) (by decide) (fun z => absurd z (by decide)), upS_ne (by decide), upS_ne (by decide), upS_eq]
    refine ⟨_, _, τ1, hX, hM, inv_wr h F ⟨by rw [e17, b2.1], by rw [e17]; omega, by rw [e17]; omega, fun k hk => ?_⟩, F 0 7 rfl⟩
    rw [e17] at hk
    rw [b3 110 k (by decide) (by decide) (fun z => absurd z (by decide)), upS_ne (by decide), upS_ne (by decide), upS_ne (by decide), a2 k (by omega), b2.2 k (by omega)]
  · have hM : f_M_write σ = some (-1, upS σ 111 0 0) := by
      have hw : f_M_hasWay (upS σ 111 0 0) = some 0 := by
        unfold f_M_hasWay
        rw [upS_ne (by decide), ← h80.1, if_neg h0]
      unfold f_M_write
      rw [xlet_s, hw, xbR_s, if_pos rfl]
    refine ⟨-1, σ, upS σ 111 0 0, ?_, hM, inv_thr h, rfl⟩
    unfold f_X_write f_Way_isTold
    rw [if_neg h0, xbR_s, if_pos rfl]
