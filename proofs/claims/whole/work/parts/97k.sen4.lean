/-! SENTENCES read in lock-step: ONES within one another -/
section
variable {σ0 τ0 : xSt} {d : Nat → Int} {n c : Nat} {en : Int}
theorem SnR.pass {i O S W : Nat} {σ τ : xSt} (h : SnR σ0 τ0 d n c i O S W σ τ) (p : Int) :
    (∃ σ' τ', f_Tokens_pass p σ = some (1, σ') ∧ f_M_readSign p τ = some (1, τ') ∧ SnR σ0 τ0 d n c (i + 1) O S W σ' τ' ∧ frS σ σ' ∧ frH τ τ') ∨ (∃ σ' τ', f_Tokens_pass p σ = some (0, σ') ∧ f_M_readSign p τ = some (0, τ') ∧ SnB σ0 τ0 σ' τ') := by
  obtain ⟨hL, h9, h10, kX, kM, o1, o2, s1, s2, w1, hO⟩ := h
  rcases pass_lock hL h9 p with ⟨σ', τ', a1, a2, a3, a4, a5⟩ | ⟨σ', τ', a1, a2, a3, a4, a5, a6⟩
  · refine Or.inl ⟨σ', τ', a1, a2, ⟨a3, ?_, ?_, kX.step a4, kM.go a5, ?_, ?_, ?_, ?_, ?_, hO⟩, a4, a5⟩
    · rw [a4 2 9 (fun _ => by decide)]; exact h9
    · rw [a5 111 10 (fun _ => by decide)]; exact h10
    · rw [a4 42 0 (fun z => absurd z (by decide))]; exact o1
    · rw [a5 111 72 (fun _ => by decide)]; exact o2
    · rw [a4 42 1 (fun z => absurd z (by decide))]; exact s1
    · rw [a5 111 71 (fun _ => by decide)]; exact s2
    · rw [a5 111 73 (fun _ => by decide)]; exact w1
  · exact Or.inr ⟨σ', τ', a1, a2, a3, kX.fail a5, kM.bad a6⟩
theorem Kps.step {S : Nat} {σ τ σ' τ' : xSt} (a4 : frS σ σ') (a5 : frH τ τ') : Kps S σ τ σ' τ' :=
  ⟨fun k _ => ⟨a4 43 k (fun z => absurd z (by decide)), a4 44 k (fun z => absurd z (by decide)), a4 45 k (fun z => absurd z (by decide))⟩, fun q _ => a5 138 q (fun z => absurd z (by decide))⟩
def OneL (σ0 τ0 : xSt) (d : Nat → Int) (n c : Nat) (en : Int) (D W : Nat) : Prop := ∀ F F2 : Nat, 4 * D + 1 ≤ F → 4 * D + 1 ≤ F2 → SnL σ0 τ0 d n c en W (fun σ => (g_Sentence_readAll F).2.2 ((W + 1 : Nat) : Int) σ) (fun τ => (g_M_readAnd F2).2.2.2.1 τ)
theorem all_of {D W : Nat} (h1 : OneL σ0 τ0 d n c en D W) {F F2 : Nat} (hF : 4 * D + 2 ≤ F) (hF2 : 4 * D + 2 ≤ F2) : SnL σ0 τ0 d n c en W (fun σ => (g_Sentence_readAll F).1 ((W + 1 : Nat) : Int) σ) (fun τ => (g_M_readAnd F2).1 τ) := by
  intro i O S σ τ hR
  obtain ⟨F, rfl⟩ : ∃ n2, F = n2 + 1 := ⟨F - 1, by omega⟩
  obtain ⟨F2, rfl⟩ : ∃ n2, F2 = n2 + 1 := ⟨F2 - 1, by omega⟩
  have hop := h1 F F2 (by omega) (by omega)
  rcases hop i O S σ τ hR with ⟨σ1, τ1, a1, a2, i1, O1, S1, c1, c2, c3, c4, c5, c6⟩ | ⟨σ1, τ1, a1, a2, a3⟩
  · have a1 : (g_Sentence_readAll F).2.2 ((W + 1 : Nat) : Int) σ = some (1, σ1) := a1
    have a2 : (g_M_readAnd F2).2.2.2.1 τ = some (1, τ1) := a2
    have hx : f0_Sentence_readAll ((g_Sentence_readAll F).1) ((g_Sentence_readAll F).2.1) ((g_Sentence_readAll F).2.2) ((W + 1 : Nat) : Int) σ = f_Sentence_readAll_15 ((g_Sentence_readAll F).1) ((g_Sentence_readAll F).2.1) ((g_Sentence_readAll F).2.2) 1000000 ((W + 1 : Nat) : Int) 0 σ1 := by
      unfold f0_Sentence_readAll
      rw [a1, xbW_s, if_neg (by decide)]
    have hy : f0_M_readAnd ((g_M_readAnd F2).1) ((g_M_readAnd F2).2.1) ((g_M_readAnd F2).2.2.1) ((g_M_readAnd F2).2.2.2.1) ((g_M_readAnd F2).2.2.2.2) τ = f_M_readAnd_14 ((g_M_readAnd F2).1) ((g_M_readAnd F2).2.1) ((g_M_readAnd F2).2.2.1) ((g_M_readAnd F2).2.2.2.1) ((g_M_readAnd F2).2.2.2.2) 1000000 ((S1 : Int) - 1) τ1 := by
      unfold f0_M_readAnd
      rw [a2, xbW_s, if_neg (by decide), xlet_s, c2]
    have hS2 := hR.2.2.2.2.2.2.2.2.2.2.2
    rcases bin_lock (aw := 143) (kw := 7) (kind := 1) (mk := 2) (X := fun fu l s => f_Sentence_readAll_15 ((g_Sentence_readAll F).1) ((g_Sentence_readAll F).2.1) ((g_Sentence_readAll F).2.2) fu ((W + 1 : Nat) : Int) l s) (Y := fun fu l s => f_M_readAnd_14 ((g_M_readAnd F2).1) ((g_M_readAnd F2).2.1) ((g_M_readAnd F2).2.2.1) ((g_M_readAnd F2).2.2.2.1) ((g_M_readAnd F2).2.2.2.2) fu l s) (fun fu l s => f_Sentence_readAll_15.eq_2 ..) (fun fu l s => f_M_readAnd_14.eq_2 ..) (by decide) (Or.inl ⟨rfl, rfl⟩) hop (O0 := O) (S0 := S) (σs := σ) (τs := τ) 21 1000000 1000000 0 i1 O1 S1 σ1 τ1 (by omega) (by omega) (by omega) (by omega) c1 c4 hS2 c5 c6 with ⟨σ', τ', b1, b2, b3⟩ | ⟨σ', τ', b1, b2, b3⟩
    · exact Or.inl ⟨σ', τ', hx.trans b1, hy.trans b2, b3⟩
    · exact Or.inr ⟨σ', τ', hx.trans b1, hy.trans b2, b3⟩
  · have a1 : (g_Sentence_readAll F).2.2 ((W + 1 : Nat) : Int) σ = some (0, σ1) := a1
    have a2 : (g_M_readAnd F2).2.2.2.1 τ = some (0, τ1) := a2
    have hx : f0_Sentence_readAll ((g_Sentence_readAll F).1) ((g_Sentence_readAll F).2.1) ((g_Sentence_readAll F).2.2) ((W + 1 : Nat) : Int) σ = some (0, σ1) := by
      unfold f0_Sentence_readAll
      rw [a1, xbW_s, if_pos rfl]
    have hy : f0_M_readAnd ((g_M_readAnd F2).1) ((g_M_readAnd F2).2.1) ((g_M_readAnd F2).2.2.1) ((g_M_readAnd F2).2.2.2.1) ((g_M_readAnd F2).2.2.2.2) τ = some (0, τ1) := by
      unfold f0_M_readAnd
      rw [a2, xbW_s, if_pos rfl]
    exact Or.inr ⟨σ1, τ1, hx, hy, a3⟩
theorem cond_of {D W : Nat} (h1 : OneL σ0 τ0 d n c en D W) {F F2 : Nat} (hF : 4 * D + 3 ≤ F) (hF2 : 4 * D + 3 ≤ F2) : SnL σ0 τ0 d n c en W (fun σ => (g_Sentence_readAll F).2.1 ((W + 1 : Nat) : Int) σ) (fun τ => (g_M_readAnd F2).2.2.2.2 τ) := by
  intro i O S σ τ hR
  obtain ⟨F, rfl⟩ : ∃ n2, F = n2 + 1 := ⟨F - 1, by omega⟩
  obtain ⟨F2, rfl⟩ : ∃ n2, F2 = n2 + 1 := ⟨F2 - 1, by omega⟩
  have hop := all_of h1 (F := F) (F2 := F2) (by omega) (by omega)
  rcases hop i O S σ τ hR with ⟨σ1, τ1, a1, a2, i1, O1, S1, c1, c2, c3, c4, c5, c6⟩ | ⟨σ1, τ1, a1, a2, a3⟩
  · have a1 : (g_Sentence_readAll F).1 ((W + 1 : Nat) : Int) σ = some (1, σ1) := a1
    have a2 : (g_M_readAnd F2).1 τ = some (1, τ1) := a2
    have hx : f0_Sentence_readCondition ((g_Sentence_readAll F).1) ((g_Sentence_readAll F).2.1) ((g_Sentence_readAll F).2.2) ((W + 1 : Nat) : Int) σ = f_Sentence_readCondition_15 ((g_Sentence_readAll F).1) ((g_Sentence_readAll F).2.1) ((g_Sentence_readAll F).2.2) 1000000 ((W + 1 : Nat) : Int) 0 σ1 := by
      unfold f0_Sentence_readCondition
      rw [a1, xbW_s, if_neg (by decide)]
    have hy : f0_M_readOr ((g_M_readAnd F2).1) ((g_M_readAnd F2).2.1) ((g_M_readAnd F2).2.2.1) ((g_M_readAnd F2).2.2.2.1) ((g_M_readAnd F2).2.2.2.2) τ = f_M_readOr_14 ((g_M_readAnd F2).1) ((g_M_readAnd F2).2.1) ((g_M_readAnd F2).2.2.1) ((g_M_readAnd F2).2.2.2.1) ((g_M_readAnd F2).2.2.2.2) 1000000 ((S1 : Int) - 1) τ1 := by
      unfold f0_M_readOr
      rw [a2, xbW_s, if_neg (by decide), xlet_s, c2]
    have hS2 := hR.2.2.2.2.2.2.2.2.2.2.2
    rcases bin_lock (aw := 142) (kw := 6) (kind := 2) (mk := 3) (X := fun fu l s => f_Sentence_readCondition_15 ((g_Sentence_readAll F).1) ((g_Sentence_readAll F).2.1) ((g_Sentence_readAll F).2.2) fu ((W + 1 : Nat) : Int) l s) (Y := fun fu l s => f_M_readOr_14 ((g_M_readAnd F2).1) ((g_M_readAnd F2).2.1) ((g_M_readAnd F2).2.2.1) ((g_M_readAnd F2).2.2.2.1) ((g_M_readAnd F2).2.2.2.2) fu l s) (fun fu l s => f_Sentence_readCondition_15.eq_2 ..) (fun fu l s => f_M_readOr_14.eq_2 ..) (by decide) (Or.inr ⟨rfl, rfl⟩) hop (O0 := O) (S0 := S) (σs := σ) (τs := τ) 21 1000000 1000000 0 i1 O1 S1 σ1 τ1 (by omega) (by omega) (by omega) (by omega) c1 c4 hS2 c5 c6 with ⟨σ', τ', b1, b2, b3⟩ | ⟨σ', τ', b1, b2, b3⟩
    · exact Or.inl ⟨σ', τ', hx.trans b1, hy.trans b2, b3⟩
    · exact Or.inr ⟨σ', τ', hx.trans b1, hy.trans b2, b3⟩
  · have a1 : (g_Sentence_readAll F).1 ((W + 1 : Nat) : Int) σ = some (0, σ1) := a1
    have a2 : (g_M_readAnd F2).1 τ = some (0, τ1) := a2
    have hx : f0_Sentence_readCondition ((g_Sentence_readAll F).1) ((g_Sentence_readAll F).2.1) ((g_Sentence_readAll F).2.2) ((W + 1 : Nat) : Int) σ = some (0, σ1) := by
      unfold f0_Sentence_readCondition
      rw [a1, xbW_s, if_pos rfl]
    have hy : f0_M_readOr ((g_M_readAnd F2).1) ((g_M_readAnd F2).2.1) ((g_M_readAnd F2).2.2.1) ((g_M_readAnd F2).2.2.2.1) ((g_M_readAnd F2).2.2.2.2) τ = some (0, τ1) := by
      unfold f0_M_readOr
      rw [a2, xbW_s, if_pos rfl]
    exact Or.inr ⟨σ1, τ1, hx, hy, a3⟩
end
