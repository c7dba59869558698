/-! printed by wip/whole/mk43.py: rows of the law's loop -/
theorem xlc_self (x : Int) : xlc x x = 0 := by
  unfold xlc
  rw [if_neg (Int.lt_irrefl x), if_pos rfl]
/-- steps that neither call nor leave, with what they want -/
def ygo (sc : xSc) (own rk : Nat) (cd : Nat → Option (Instr × Nat)) : Nat → xS → Option (Bool × xS)
  | 0, q => some (true, q)
  | k + 1, (pc, ls, st, σ) => match cd pc with
    | none => none
    | some (i, _) => match xretI own rk st i with
      | some _ => none
      | none => match xcallI own st i with
        | some _ => none
        | none => match xstepI sc own pc ls st σ i with
          | some (g, q) => match ygo sc own rk cd k q with
            | some (g2, q2) => some (g && g2, q2)
            | none => none
          | none => none
section LAWR
variable {p : Program} {l : Launch} {e : Env} {R : Room} {s : State} {m : MethodId} {args : Array Value} {below : List Frame} {meth : Method} {c : Code} {cells slots : Nat} {Q : State → Prop} {cc : ByteArray}
variable {cs ρ adV : Nat → Nat} {dC : Nat → ClassId} {dI : Nat → Nat → Nat} {A : Nat → Prop} {nL own : Nat} {sc : xSc}
theorem ws_go {rk : Nat} {cd : Nat → Option (Instr × Nat)} (F : FrOk p R s m args c cells slots cc cs ρ dC dI A nL own) (hsc : ScOk sc ρ A s s.heap) (hstr : StrOk p l e R s m args below meth c cells slots Q cc ρ A s.heap nL own) (hcd : CdOk own cc cd) :
    ∀ (k : Nat) (q q' : xS) (g : Bool), ygo sc own rk cd k q = some (g, q') → g = true → WS p l e R s m args below meth c cells slots Q cs ρ dC dI A s.heap nL q' → WS p l e R s m args below meth c cells slots Q cs ρ dC dI A s.heap nL q := by
  intro k
  induction k with
  | zero =>
    intro q q' g h _ kk
    cases h
    exact kk
  | succ k ih =>
    intro q q' g h hg kk
    obtain ⟨pc, ls, st, σ⟩ := q
    unfold ygo at h
    split at h
    · cases h
    · rename_i i len hi_
      obtain ⟨hdg, hok⟩ := hcd pc i len hi_
      split at h
      · cases h
      · split at h
        · cases h
        · split at h
          · rename_i g1 q1 hs_
            split at h
            · rename_i g2 q2 hk_
              cases h
              have hg_ := Bool.and_eq_true_iff.mp hg
              have hg1_ := hg_.1
              subst hg1_
              exact step_ok F hsc hstr hdg hok hs_ (ih q1 q' g2 hk_ hg_.2 kk)
            · cases h
          · cases h
theorem ws_ite {H0 : Heap} {b : Prop} [Decidable b] {q1 q2 : xS} (h1 : b → WS p l e R s m args below meth c cells slots Q cs ρ dC dI A H0 nL q1) (h2 : ¬ b → WS p l e R s m args below meth c cells slots Q cs ρ dC dI A H0 nL q2) : WS p l e R s m args below meth c cells slots Q cs ρ dC dI A H0 nL (if b then q1 else q2) := by
  by_cases h : b
  · rw [if_pos h]
    exact h1 h
  · rw [if_neg h]
    exact h2 h
theorem ws_inr {H0 : Heap} {q : xS} (h : InR q.2.2.2 → WS p l e R s m args below meth c cells slots Q cs ρ dC dI A H0 nL q) : WS p l e R s m args below meth c cells slots Q cs ρ dC dI A H0 nL q := fun H locs real hR => h hR.2.2.1 H locs real hR
/-- a call by the law of a method of the class or of the model -/
theorem lw_call (HS : StrLaw l) (F : FrOk p R s m args c cells slots cL_law cs ρ dC dI A 8 13) (hE : StrEnv ρ adV A s) (hAn : ∀ q, s.heap.size ≤ q → A q) (hRfr : 2048 ≤ R.frames) (hRlo : 84000 ≤ R.locals) {d : Nat} (hd : d ≤ 1000)
    {pc : Nat} {ls : xL} {st st' : List xV} {σ σ' : xSt} {i : Instr} {m2 : Nat} {as : List xV} {r : Option xV} (hi : kL_loop pc = some (i, 3)) (hcl : xcallI 13 st i = some (m2, as, st')) (hm : Nat.blt m2 352 = true) (hq : ∃ q ∈ mP, q.1 = m2) (has : ∀ v ∈ as, okV v) (hC : Call d m2 as σ (some r) σ')
    (kk : WS p l e R s m args below meth c cells slots Q cs ρ dC dI A s.heap 8 (pc + 3, ls, r.toList ++ st', σ')) : WS p l e R s m args below meth c cells slots Q cs ρ dC dI A s.heap 8 (pc, ls, st, σ) := by
  refine ws_inr (fun hσ => ?_)
  obtain ⟨hdg, hok⟩ := cdL_loop _ _ _ hi
  obtain ⟨N, hN⟩ := hC.mono hd
  obtain ⟨hx, hb, hml, hown, hts, hnw, hK, hinj, hAr, hks, hRf, hRl, hRc, hRs⟩ := F
  exact call_ok (d := 1000) (mc := 0) (ms := 0) (adV := adV) ⟨hx, hb, hml, hown, hts, hnw, hK, hinj, hAr, hks, hRf, hRl, hRc, hRs⟩ hE hAn (by omega) (by omega) (by omega) (by omega) hdg hok hcl (mth_in13 hm) (met_ok HS hinj N 1000 m2 as σ r σ' hN hq hσ has) kk
set_option maxHeartbeats 1000000 in
/-- a call by the law of its own method that catches -/
theorem lw_callW (F : FrOk p R s m args c cells slots cL_law cs ρ dC dI A 8 13) (hE : StrEnv ρ adV A s) (hT : ThrEnv A s) (hAn : ∀ q, s.heap.size ≤ q → A q) (hRfr : 2048 ≤ R.frames) (hRlo : 84000 ≤ R.locals) (hRc2 : cells + 1 ≤ R.cells) (hRs2 : slots + 6 ≤ R.slots)
    {pc ix w n E Hd : Nat} {ls : xL} {st st' : List xV} {σ σ' : xSt} {as : List xV} {k : Int} (hi : kL_loop pc = some (.invokestatic ix, 3)) (hpo : xpop n [] st = some (as, st')) (hsm : (st'.map xcat).sum ≤ 8) (hmx : mMax w ≤ 17)
    (hcw : Cond.codeWith (mY w) (mBytes w) (mMax w) (some .int) [(0, E, Hd, 13)] ∈ tables_1) (hlk : Cond.methodLink (cnm 13) ix (mY w) ∈ GW) (hst : Cond.static (mY w) ∈ GW) (hini : Cond.initialized (mY w).cls ∈ GW) (hdd : (mY w).cls ≠ "java/lang/invoke/MethodHandle" ∧ (mY w).cls ≠ "java/lang/invoke/VarHandle" ∧ (parseMethodDescriptor (mY w).desc).map (fun d => d.parameters.length) = some n)
    (hM : InR σ → ∀ sz, vx_Met l (mY w) (Cond.codeWith (mY w) (mBytes w) (mMax w) (some .int) [(0, E, Hd, 13)] :: GW) rmW (PcT cs ρ adV dC dI as σ sz) (QcG cs ρ dC dI (some (vI k)) σ' (AW ρ sz)) (fun _ _ _ => False) 1 6 (AW ρ sz))
    (kk : WS p l e R s m args below meth c (cells + 1) (slots + 6) Q cs ρ dC dI A s.heap 8 (pc + 3, ls, vI k :: st', σ')) : WS p l e R s m args below meth c cells slots Q cs ρ dC dI A s.heap 8 (pc, ls, st, σ) := by
  obtain ⟨hdg, hok⟩ := cdL_loop _ _ _ hi
  obtain ⟨hx, hb, hml, hown, hts, hnw, hK, hinj, hAr, hks, hRf, hRl, hRc, hRs⟩ := F
  intro H locs real hR
  obtain ⟨hP, hS, hσ, hl, hn, hol, hos⟩ := hR
  change ls.length = 8 at hn
  change InR σ at hσ
  change va_P (dC, dI) vwCl (wd cs ρ σ) H at hP
  change lv_has real 8 (lvL ρ ls) at hl
  change ∀ w, some w ∈ ls → okV w at hol
  change ∀ w ∈ st, okV w at hos
  show W p l e R s m args below meth c H locs cells slots Q (F0 m pc real (st.map (emb ρ)))
  have hsub_ : ∀ q, AW ρ H.size q → A q := fun q hq => hq.elim (fun ⟨a, ha, hqa⟩ => hqa ▸ hAr a ha) (fun z => hAn q (Nat.le_trans hS.1 z))
  obtain ⟨hp1_, hp2_⟩ := xpop_of _ _ _ _ _ hpo
  have hst_ : st.map (emb ρ) = (as.map (emb ρ)).reverse ++ st'.map (emb ρ) := by
    rw [← List.map_reverse, ← List.map_append, hp1_]
    rfl
  have hsm_ : ((st'.map (emb ρ)).map fun v => v.category).sum ≤ 8 := by rw [emb_sum]; exact hsm
  have hsub2_ : ∀ w ∈ st', okV w := fun w hw => hos w (by
    have hz_ : w ∈ as.reverse ++ st' := List.mem_append_right _ hw
    rw [hp1_] at hz_
    exact hz_)
  have hlen_ : (as.map (emb ρ)).length = n := by rw [List.length_map, hp2_]; rfl
  have hpre_ : ∀ U : State, U.heap = H → s.WarmedH U.vm → PcT cs ρ adV dC dI as σ H.size (as.map (emb ρ)).toArray U := fun U hU hW => ⟨rfl, by rw [hU], by rw [hU]; exact hP, va_K.moved hW.alike hK, hnw.warm hW, hE.callee hW hU hS hsub_, hT.callee hW hU hS hsub_⟩
  have hcw2_ := GW_of hcw rfl
  have hG_ : GoodIn GW (va_wsS (cnm 13) ix (mY w) (Cond.codeWith (mY w) (mBytes w) (mMax w) (some .int) [(0, E, Hd, 13)] :: GW)) := by
    intro z hz
    rcases List.mem_append.mp hz with hz | hz
    · have h9 : z ∈ GW := by
        rcases List.mem_cons.mp hz with rfl | hz
        · exact hlk
        · rcases List.mem_cons.mp hz with rfl | hz
          · exact hst
          · rcases List.mem_cons.mp hz with rfl | hz
            · exact hini
            · cases hz
      exact ⟨h9, good_of_word (GW_good h9)⟩
    · rcases List.mem_cons.mp hz with rfl | hz
      · exact ⟨hcw2_, Or.inl rfl⟩
      · exact ⟨hz, good_of_word (GW_good hz)⟩
  rw [hst_]
  refine x_callX (vx_runSX (Ts := GW) (own := cnm 13) (nL := 8) (As := as.map (emb ρ)) (rest := st'.map (emb ρ)) ⟨hx, hb, hml, hown, hts⟩ (hM hσ H.size) (vx_cwSW n hts hG_ rfl rfl rfl hdd ⟨by show 1002 + 8 + 1 ≤ R.frames; omega, by show 8 + (mMax w + 11) + (36 * 1002 + 200) ≤ R.locals; omega⟩) ⟨PcT_blind, hpre_⟩ rfl hlen_ hl.1 rfl (lv_room hsm_) hdg ⟨hRc2, hRs2⟩) hS hsub_ (fun _ _ _ _ _ _ _ _ _ _ hx_ => hx_.elim) ?_
  intro v st0 t H1 locs1 hst0_ ht_ hal_ hq_ hlo_
  obtain ⟨hv_, hP1_, hF_, hσ2, hr2⟩ := hq_
  cases hv_
  have hS1_ : va_S A s.heap H1 locs1 := by
    refine ⟨Nat.le_trans hS.1 (by rw [← ht_, ← hst0_]; exact hF_.1), fun q h1 h2 => ?_, hlo_⟩
    have h3 := hF_.2 q (by rw [hst0_]; exact Nat.lt_of_lt_of_le h1 hS.1) (fun z => h2 (hsub_ q z))
    rw [← ht_, h3, hst0_]
    exact hS.2.1 q h1 h2
  rw [ht_] at hP1_
  exact kk H1 locs1 real ⟨hP1_, hS1_, hσ2, hl, hn, hol, fun w hw => (List.mem_cons.mp hw).elim (fun z => z ▸ hr2 _ rfl) (hsub2_ w)⟩
end LAWR
/-! what is left to show of the class and the model, by an invariant -/
def SimW (Inv Inv2 : xSt → Prop) (fx fm : xSt → Option (Int × xSt)) : Prop := ∀ σ, Inv σ → ∃ r σ1 σ2, fx σ = some (r, σ1) ∧ fm σ1 = some (r, σ2) ∧ Inv2 σ2
def SimR (Inv Inv2 : xSt → Prop) (fx : xSt → Option Int) (fm : xSt → Option (Int × xSt)) : Prop := ∀ σ, Inv σ → ∃ r σ2, fx σ = some r ∧ fm σ = some (r, σ2) ∧ Inv2 σ2
def SimT (Inv Inv2 : xSt → Prop) (fx : xSt → Option (Option Int × xSt)) (fm : xSt → Option (Int × xSt)) : Prop := ∀ σ, Inv σ → ∃ r σ1 b σ2, fx σ = some (r, σ1) ∧ fm (wSt (r, σ1)) = some (b, σ2) ∧ (r = none ∧ f_M_thrown σ2 = some 1 ∨ f_M_thrown σ2 = some 0 ∧ ∃ v, r = some v ∧ b = v ∧ σ2 139 0 = v) ∧ Inv2 σ2
theorem in32_sc {xs : Nat → Int32} {f : Nat → Int} (hf : f = fun j => (xs j).toInt) (j : Nat) : in32 (f j) := by
  rw [hf]
  exact i32_in _
theorem xin_of {i : Int} {L : Nat} (h0 : 0 ≤ i) (h1 : i ≤ (L : Int) - 6) (hL : L ≤ 3072) {k : Int} (hk0 : 0 ≤ k) (hk5 : k ≤ 5) : xin (w32 (i + k)) L = true := by
  rw [w32_id ⟨by omega, by omega⟩]
  exact decide_eq_true ⟨by omega, by omega⟩
