/-! THE LAW'S OWN METHODS THAT CATCH -/
section CALLX
variable {p : Program} {l : Launch} {e : Env} {R : Room} {s : State} {m : MethodId} {args : Array Value} {below : List Frame} {meth : Method} {c : Code} {H : Heap} {locs : List Loc} {cells slots mc ms : Nat} {Q : State → Prop}
/-- behind a call that may have thrown -/
theorem x_callX {Qa : State → Outcome → State → Prop} {XC : String → State → State → Prop} {free : Addr → Prop} {pc : Nat} {ls : Array Slot} {st0 rest : List Value} {A : Nat → Prop} {H0 : Heap} (hr : vx_Run p l e R s m args below meth c H locs cells slots mc ms (F0 m pc ls st0) rest Qa XC free) (hS : va_S A H0 H locs) (hf : ∀ q, free q → A q)
    (kx : ∀ (E : String) (ce : Cell) (q9 : Addr) (st t : State) (H1 : Heap) (locs1 : List Loc), st.heap = H → t.heap = H1 → s.vm.Alike t.vm → XC E st t → (∀ l ∈ locs1, A l.base) → H1[q9]? = some ce → ce.vm = .none → s.vm.findClass E = some ce.cls → vx_W p l e R s m args below meth c H1 locs1 (cells + mc) (slots + ms) Q (F0 m pc ls rest) q9)
    (kk : ∀ (v : Option Value) (st t : State) (H1 : Heap) (locs1 : List Loc), st.heap = H → t.heap = H1 → s.vm.Alike t.vm → Qa st (.returned v) t → (∀ l ∈ locs1, A l.base) → W p l e R s m args below meth c H1 locs1 (cells + mc) (slots + ms) Q (F0 m (pc + 3) ls (v.toList ++ rest))) : W p l e R s m args below meth c H locs cells slots Q (F0 m pc ls st0) := by
  intro T hT X
  rcases hr T hT X with ⟨v, st₀, t, T', L, h0, X', hL, e1, e2, hq, st⟩ | ⟨q, st₀, t, T', L, E, ce, h0, X', hL, e1, e2, hx, hce, hcv, hcl, st⟩
  · obtain ⟨t2, a1, b1⟩ := kk v st₀ t T'.heap (locs ++ L) h0 e1.symm (by rw [← e2]; exact X'.warmed.alike) hq (fun q hq => by
      rcases List.mem_append.mp hq with h | h
      · exact hS.2.2 q h
      · exact hf _ (hL q h)) T' rfl X'
    exact ⟨t2, st t2 a1, b1⟩
  · obtain ⟨t2, a1, b1⟩ := kx E ce q st₀ t T'.heap (locs ++ L) h0 e1.symm (by rw [← e2]; exact X'.warmed.alike) hx (fun q hq => by
      rcases List.mem_append.mp hq with h | h
      · exact hS.2.2 q h
      · exact hf _ (hL q h)) (by rw [e1]; exact hce) hcv hcl T' rfl X'
    exact ⟨t2, st.trans a1, b1⟩
end CALLX
section BODYX
variable {p : Program} {l : Launch} {e : Env} {R : Room} {s : State} {m : MethodId} {args : Array Value} {below : List Frame} {meth : Method} {c : Code} {cells slots : Nat} {Q : State → Prop} {cc : ByteArray}
variable {cs ρ adV : Nat → Nat} {dC : Nat → ClassId} {dI : Nat → Nat → Nat} {A : Nat → Prop} {nL own : Nat} {sc : xSc}
set_option maxHeartbeats 1000000 in
/-- a call of a method that may throw -/
theorem call_okT {d : Nat} {res : xR} (F : FrOk p R s m args c cells slots cc cs ρ dC dI A nL own) (hE : StrEnv ρ adV A s) (hT : ThrEnv A s) (hAn : ∀ q, s.heap.size ≤ q → A q) (hRfr : d + 9 ≤ R.frames) (hRlo : 36 * d + 236 ≤ R.locals) (hRc2 : cells + 1 ≤ R.cells) (hRs2 : slots + 6 ≤ R.slots)
    {pc : Nat} {ls : xL} {st st' : List xV} {σ σ' : xSt} {ix len m2 : Nat} {as : List xV} (hdg : decode cc pc = .ok (.invokevirtual ix, len)) (hok : okI own pc len (.invokevirtual ix) = true) (hcl : xcallI own st (.invokevirtual ix) = some (m2, as, st'))
    (hin : ∀ ix n v, mth own ix = some (m2, n, v) → ∃ q ∈ mP, q.1 = m2 ∧ (v = 0 ↔ q.2.2.2.2 = 0)) (hnest : ∀ ix n v nest, mth own ix = some (m2, n, v) → mw own ix m2 nest ∈ tables_1 → Nat.beq nest 0 = true)
    (hM : MetT l cs ρ adV dC dI d m2 as σ res σ')
    (kx : res = none → ∀ (H1 : Heap) (locs1 : List Loc) (real : Array Slot) (ce : Cell) (q9 : Addr), RS cs ρ dC dI A s.heap nL (pc, ls, [], σ') H1 locs1 real → H1[q9]? = some ce → ce.vm = .none → s.vm.findClass nsee = some ce.cls → vx_W p l e R s m args below meth c H1 locs1 (cells + 1) (slots + 6) Q (F0 m pc real (st'.map (emb ρ))) q9)
    (kk : ∀ r, res = some r → WS p l e R s m args below meth c (cells + 1) (slots + 6) Q cs ρ dC dI A s.heap nL (pc + 3, ls, r.toList ++ st', σ')) : WS p l e R s m args below meth c cells slots Q cs ρ dC dI A s.heap nL (pc, ls, st, σ) := by
  obtain ⟨hx, hb, hml, hown, hts, hnw, hK, hinj, hAr, hks, hRf, hRl, hRc, hRs⟩ := F
  intro H locs real hR
  obtain ⟨hP, hS, hσ, hl, hn, hol, hos⟩ := hR
  change ls.length = nL at hn
  change InR σ at hσ
  change va_P (dC, dI) vwCl (wd cs ρ σ) H at hP
  change lv_has real nL (lvL ρ ls) at hl
  change ∀ w, some w ∈ ls → okV w at hol
  change ∀ w ∈ st, okV w at hos
  show W p l e R s m args below meth c H locs cells slots Q (F0 m pc real (st.map (emb ρ)))
  have hsub_ : ∀ q, AW ρ H.size q → A q := fun q hq => hq.elim (fun ⟨a, ha, hqa⟩ => hqa ▸ hAr a ha) (fun z => hAn q (Nat.le_trans hS.1 z))
  have hS1_of : ∀ (st0 t : State) (H1 : Heap) (locs1 : List Loc), st0.heap = H → t.heap = H1 → va_F (AW ρ H.size) st0 t → (∀ l ∈ locs1, A l.base) → va_S A s.heap H1 locs1 := by
    intro st0 t H1 locs1 hst0_ ht_ hF_ hlo_
    refine ⟨Nat.le_trans hS.1 (by rw [← ht_, ← hst0_]; exact hF_.1), fun q h1 h2 => ?_, hlo_⟩
    have h3 := hF_.2 q (by rw [hst0_]; exact Nat.lt_of_lt_of_le h1 hS.1) (fun z => h2 (hsub_ q z))
    rw [← ht_, h3, hst0_]
    exact hS.2.1 q h1 h2
  -- behind the call
  have hbehind_ : ∀ (v : Option Value) (st0 t : State) (H1 : Heap) (locs1 : List Loc), st0.heap = H → t.heap = H1 → s.vm.Alike t.vm → QcT cs ρ dC dI res σ' (AW ρ H.size) (as.map (emb ρ)).toArray st0 (.returned v) t → (∀ l ∈ locs1, A l.base) → (∀ w ∈ st', okV w) → W p l e R s m args below meth c H1 locs1 (cells + 1) (slots + 6) Q (F0 m (pc + 3) real (v.toList ++ st'.map (emb ρ))) := by
    intro v st0 t H1 locs1 hst0_ ht_ hal_ hq_ hlo_ hst2_
    obtain ⟨r, hres_, hv_, hP1_, hF_, hσ2, hr2⟩ := hq_
    cases hv_
    have hS1_ := hS1_of st0 t H1 locs1 hst0_ ht_ hF_ hlo_
    rw [ht_] at hP1_
    have hz_ := kk r hres_ H1 locs1 real ⟨hP1_, hS1_, hσ2, hl, hn, hol, fun w hw => (List.mem_append.mp hw).elim (isL_v (v := w) hr2 w) (hst2_ w)⟩
    have hmap_ : (r.map (emb ρ)).toList ++ st'.map (emb ρ) = (r.toList ++ st').map (emb ρ) := by
      cases r <;> simp
    rw [hmap_]
    exact hz_
  have hthrown_ : ∀ (E : String) (ce : Cell) (q9 : Addr) (st0 t : State) (H1 : Heap) (locs1 : List Loc), st0.heap = H → t.heap = H1 → s.vm.Alike t.vm → XcT cs ρ dC dI res σ' (AW ρ H.size) E st0 t → (∀ l ∈ locs1, A l.base) → H1[q9]? = some ce → ce.vm = .none → s.vm.findClass E = some ce.cls → vx_W p l e R s m args below meth c H1 locs1 (cells + 1) (slots + 6) Q (F0 m pc real (st'.map (emb ρ))) q9 := by
    intro E ce q9 st0 t H1 locs1 hst0_ ht_ hal_ hx_ hlo_ hce hcv hcl_
    obtain ⟨hres_, rfl, hP1_, hF_, hσ2⟩ := hx_
    have hS1_ := hS1_of st0 t H1 locs1 hst0_ ht_ hF_ hlo_
    rw [ht_] at hP1_
    exact kx hres_ H1 locs1 real ce q9 ⟨hP1_, hS1_, hσ2, hl, hn, hol, fun w hw => nomatch hw⟩ hce hcv hcl_
  have hpre_ : ∀ U : State, U.heap = H → s.WarmedH U.vm → PcT cs ρ adV dC dI as σ H.size (as.map (emb ρ)).toArray U := fun U hU hW => ⟨rfl, by rw [hU], by rw [hU]; exact hP, va_K.moved hW.alike hK, hnw.warm hW, hE.callee hW hU hS hsub_, hT.callee hW hU hS hsub_⟩
  have hrm_ : ({ rmD d with cells := 1, slots := 6 } : Room).frames + 1 ≤ R.frames ∧ 8 + (mMax m2 + 11) + ({ rmD d with cells := 1, slots := 6 } : Room).locals ≤ R.locals ∨ ¬ mMax m2 ≤ 17 := by
    rcases Nat.lt_or_ge 17 (mMax m2) with z | z
    · exact Or.inr (by omega)
    · exact Or.inl ⟨hRfr, by show 8 + (mMax m2 + 11) + (36 * d + 200) ≤ R.locals; omega⟩
  have hlen := Nat.eq_of_beq_eq_true hok
  subst hlen
  dsimp only [xcallI] at hcl
  split at hcl
  case h_2 => exact nomatch hcl
  case h_1 m3 n3 hmt_ =>
    split at hcl
    case h_2 => exact nomatch hcl
    case h_1 as3 st3 hpo_ =>
      cases hbs_ : (recvOk m3 as3 && Nat.ble (st3.map xcat).sum 8) with
      | false =>
        rw [hbs_] at hcl
        cases hcl
      | true =>
        rw [hbs_] at hcl
        cases hcl
        obtain ⟨hrv_, hbs_⟩ := Bool.and_eq_true_iff.mp hbs_
        obtain ⟨hq_, hqm_, hq1_, hq2_⟩ := hin ix n3 1 hmt_
        obtain ⟨f1_, f2_, f3_, f4_, f5_, f6_⟩ := mP_facts hqm_
        have hcw_ := cw_in _ hqm_
        unfold cwQ at hcw_
        rw [hq1_] at f1_ f2_ f3_ f4_ f5_ f6_ hcw_
        obtain ⟨hpn_, nest_, hlk_⟩ := mth_ok hmt_
        obtain ⟨hins_, hsel_⟩ := f6_ (fun z => nomatch hq2_.mpr z)
        obtain ⟨hp1_, hp2_⟩ := xpop_of _ _ _ _ _ hpo_
        have hst_ : st.map (emb ρ) = (as.map (emb ρ)).reverse ++ st'.map (emb ρ) := by
          rw [← List.map_reverse, ← List.map_append, hp1_]
          rfl
        have hsm_ : ((st'.map (emb ρ)).map fun v => v.category).sum ≤ 8 := by rw [emb_sum]; exact Nat.le_of_ble_eq_true hbs_
        have hlen_ : as.length = n3 + 1 := hp2_
        unfold recvOk at hrv_
        split at hrv_
        case h_2 => exact nomatch hrv_
        case h_1 a as2 =>
        have hlen2_ : (as2.map (emb ρ)).length = n3 := by
          rw [List.length_map]
          simp only [List.length_cons] at hlen_
          omega
        have hla_ : (lay a).1 = mOwn m2 := Nat.eq_of_beq_eq_true hrv_
        have hol_ : mOwn m2 < 13 := by have := mOwn_lt hqm_; rw [hq1_] at this; exact this
        have hxa_ : a < xNA := lay_lt (by omega)
        have hcell_ := wd_at cs ρ σ hxa_
        rw [cellE_obj cs ρ σ (by omega)] at hcell_
        have hrcv_ : ∃ cellB : Cell, H[ρ a]? = some cellB ∧ cellB.vm.isStatics = false ∧ s.vm.findClass (mY m2).cls = some cellB.cls := by
          rw [f2_, ← hla_]
          exact va_recv hK hP (cl_at _ (by omega)) hcell_
        have hst_ : st.map (emb ρ) = (as2.map (emb ρ)).reverse ++ .ref (ρ a) :: st'.map (emb ρ) := by
          rw [hst_]
          simp [emb]
        have hG_ : GoodIn GW (Cond.code (mY m2) (mBytes m2) (mMax m2) (mRet m2) :: GW) := fun w hw => (List.mem_cons.mp hw).elim (fun z => by rw [z]; exact ⟨GW_of hcw_ rfl, Or.inl rfl⟩) (fun z => ⟨z, good_of_word (GW_good z)⟩)
        have hdd_ : (mY m2).cls ≠ "java/lang/invoke/MethodHandle" ∧ (mY m2).cls ≠ "java/lang/invoke/VarHandle" ∧ (parseMethodDescriptor (mY m2).desc).map (fun d => d.parameters.length) = some n3 := by
          rw [f2_]
          have ho_ : mOwn m2 < 14 := by have := mOwn_lt hqm_; rw [hq1_] at this; omega
          exact ⟨(own_cls _ ho_).1, (own_cls _ ho_).2, hpn_⟩
        have hR_ := hrm_.resolve_right (fun z => z f4_)
        have hsub2_ : ∀ w ∈ st', okV w := fun w hw => hos w (by
          have hz_ : w ∈ (vR a :: as2).reverse ++ st' := List.mem_append_right _ hw
          rw [hp1_] at hz_
          exact hz_)
        rw [hst_]
        cases hnb_ : Nat.beq nest_ 0 with
        | true =>
          unfold mw at hlk_
          rw [hnb_] at hlk_
          exact x_callX (vx_runV (Ts := GW) (own := cnm own) (nL := nL) (b := ρ a) (C := (mY m2).cls) (As := as2.map (emb ρ)) (rest := st'.map (emb ρ)) ⟨hx, hb, hml, hown, hts⟩ (hM H.size) ⟨callB_of n3 hts hG_ rfl rfl rfl (hts _ f1_) (hts _ (GW_of hlk_ rfl)) hdd_ hR_, hts _ hins_, hts _ hsel_⟩ ⟨PcT_blind, hrcv_, hpre_⟩ rfl hlen2_ hl.1 rfl (lv_room hsm_) hdg ⟨hRc2, hRs2⟩) hS hsub_ hthrown_ (fun v st0 t H1 locs1 g1 g2 g3 g4 g5 => hbehind_ v st0 t H1 locs1 g1 g2 g3 g4 g5 hsub2_)
        | false => exact absurd (hnest _ _ _ _ hmt_ hlk_) (by rw [hnb_]; exact Bool.false_ne_true)
/-- steps that neither call nor leave -/
theorem ws_steps {rk : Nat} {H0 : Heap} {cd : Nat → Option (Instr × Nat)} (F : FrOk p R s m args c cells slots cc cs ρ dC dI A nL own) (hstr : StrOk p l e R s m args below meth c cells slots Q cc ρ A H0 nL own) (hcd : CdOk own cc cd) :
    ∀ (k : Nat) (q q' : xS), xsteps own rk cd k q = some q' → WS p l e R s m args below meth c cells slots Q cs ρ dC dI A H0 nL q' → WS p l e R s m args below meth c cells slots Q cs ρ dC dI A H0 nL q := by
  intro k
  induction k with
  | zero =>
    intro q q' h kk
    cases h
    exact kk
  | succ k ih =>
    intro q q' h kk
    unfold xsteps at h
    split at h
    · rename_i q2 hs_
      have hk := ih q2 q' h kk
      obtain ⟨pc, ls, st, σ⟩ := q
      unfold xstep1 at hs_
      dsimp only at hs_
      split at hs_
      · cases hs_
      · rename_i i len hi_
        obtain ⟨hdg, hok⟩ := hcd pc i len hi_
        split at hs_
        · cases hs_
        · split at hs_
          · cases hs_
          · exact step_ok (sc := none) F (fun n f hq => nomatch hq) hstr hdg hok hs_ hk
    · cases h
end BODYX
/-- what a method of the law answers: 0 returned, 1 thrown -/
def wKind : xR → Int
  | none => 1
  | some _ => 0
def noNest13 (w : Cond) : Bool := match w with
  | .methodLinkNest c _ _ _ => !decide (c = RL)
  | _ => true
theorem noNest13_all : tables_1.all noNest13 = true := by decide +kernel
theorem nest13 {ix m nest : Nat} (h : mw 13 ix m nest ∈ tables_1) : Nat.beq nest 0 = true := by
  have h1 := List.all_eq_true.mp noNest13_all _ h
  unfold mw at h1
  cases hb_ : Nat.beq nest 0 with
  | true => rfl
  | false =>
    rw [hb_] at h1
    have h2 : (!decide (cnm 13 = RL)) = true := h1
    exact absurd h2 (by decide)
section WRAP
variable {l : Launch} {cs ρ adV : Nat → Nat} {dC : Nat → ClassId} {dI : Nat → Nat → Nat}
set_option maxHeartbeats 1000000 in
/-- a method of the law that calls a method that may throw, and catches -/
theorem wrap_ok (hl : l.stackTraces = false) (HS : StrLaw l) (hinj : ∀ a b, a < xNA → b < xNA → ρ a = ρ b → a = b) {N d w t n1 n2 P E Hd h2 xl ix pcE : Nat} {as as' : List xV} {st1 st' : List xV} {ls1 : xL} {σ σ' σ'' : xSt} {res : xR}
    (ho : mOwn w = 13) (hrk : mRk w = 1) (hrt : mRet w = some .int) (hmx : mMax w ≤ 17) (hcl : (mY w).cls = "BentPennyLaw") (hcd : CdOk 13 (mBytes w) (mCode w))
    (hcw : Cond.codeWith (mY w) (mBytes w) (mMax w) (some .int) [(0, E, Hd, 13)] ∈ tables_1) (hlk : Cond.classLink "BentPennyLaw" 13 nsee ∈ tables_1) (hPE : P < E)
    (hast : (mCode w Hd = some (.astore xl, 2) ∧ h2 = Hd + 2) ∨ (∃ k : Fin 4, (k : Nat) = xl ∧ mCode w Hd = some (.astore_n k, 1) ∧ h2 = Hd + 1)) (hxl : xl < mMax w) (hi1 : mCode w h2 = some (.iconst 1, 1)) (hi2 : mCode w (h2 + 1) = some (.ireturn, 1))
    (hle : (eL as).length ≤ mMax w) (hs1 : xsteps 13 1 (mCode w) n1 (0, eP (mMax w) (eL as), [], σ) = some (P, ls1, st1, σ)) (hP : mCode w P = some (.invokevirtual ix, 3)) (hca : xcallI 13 st1 (.invokevirtual ix) = some (t, as', st'))
    (hin : ∀ ix n v, mth 13 ix = some (t, n, v) → ∃ q ∈ mP, q.1 = t ∧ (v = 0 ↔ q.2.2.2.2 = 0)) (hC : callD N (d + 1) t as' σ = some (res, σ')) (hm : ∃ q ∈ mP, q.1 = t) (hth : ThrCode t) (has' : ∀ v ∈ as', okV v)
    (hret : ∀ v, res = some v → ∃ ls2, xsteps 13 1 (mCode w) n2 (P + 3, ls1, v.toList ++ st', σ') = some (pcE, ls2, [vI 0], σ'')) (hpcE : mCode w pcE = some (.ireturn, 1)) (hnone : res = none → σ'' = σ') (hσ : InR σ) (has : ∀ v ∈ as, okV v) :
    ∀ sz, vx_Met l (mY w) (Cond.codeWith (mY w) (mBytes w) (mMax w) (some .int) [(0, E, Hd, 13)] :: GW) { rmD (d + 2) with cells := 1, slots := 6 } (PcT cs ρ adV dC dI as σ sz) (QcG cs ρ dC dI (some (vI (wKind res))) σ'' (AW ρ sz)) (fun _ _ _ => False) 1 6 (AW ρ sz) := by
  intro sz
  refine vx_ofWH (cc := mBytes w) (maxL := mMax w) (ret := some .int) (hh := [(0, E, Hd, 13)]) (by rw [hcl]; decide +kernel) rfl ?_
  intro p e s mm args below meth c s₁ B hml hv
  obtain ⟨rfl, hsz, hPw, hK, hN, hE, hT⟩ := hv
  subst hsz
  have hts0 := atoms_spec (ws := Cond.codeWith (mY w) (mBytes w) (mMax w) (some .int) [(0, E, Hd, 13)] :: GW) B.pre
  have hts : ∀ w ∈ GW, w.before (as.map (emb ρ)).toArray s = true := fun w hw => hts0 w (List.mem_cons_of_mem _ hw)
  have hown : s.vm.findClass (cnm 13) = some mm.cls := by
    have h9 := findClass_of_methodNamed B.named
    rw [hcl] at h9
    exact h9
  have hlocks := B.notSynchronized
  have hr := B.returns
  have hAr : ∀ a, a < xNA → AW ρ s.heap.size (ρ a) := fun a ha => Or.inl ⟨a, ha, rfl⟩
  obtain ⟨RR, hRR⟩ : ∃ z, z = (headSpec (Cond.codeWith (mY w) (mBytes w) (mMax w) (some .int) [(0, E, Hd, 13)] :: GW) { rmD (d + 2) with cells := 1, slots := 6 }).room := ⟨_, rfl⟩
  have hRf : RR.frames = d + 2 + 8 := by rw [hRR]; rfl
  have hRl : RR.locals = 36 * (d + 2) + 200 := by rw [hRR]; rfl
  have hRc : RR.cells = 1 := by rw [hRR]; rfl
  have hRs : RR.slots = 6 := by rw [hRR]; rfl
  rw [← hRR]
  have F : FrOk p RR s mm (as.map (emb ρ)).toArray c 0 0 (mBytes w) cs ρ dC dI (AW ρ s.heap.size) (mMax w) 13 :=
    ⟨B.exec, B.bytes, hml, hown, hts, hN, hK, hinj, hAr, hE.1 13, by omega, by omega, Nat.zero_le _, Nat.zero_le _⟩
  have F2 : FrOk p RR s mm (as.map (emb ρ)).toArray c (0 + 1) (0 + 6) (mBytes w) cs ρ dC dI (AW ρ s.heap.size) (mMax w) 13 :=
    ⟨B.exec, B.bytes, hml, hown, hts, hN, hK, hinj, hAr, hE.1 13, by omega, by omega, by omega, by omega⟩
  have hstr := HS p e RR s mm (as.map (emb ρ)).toArray below meth c 0 0 (vx_MQ below (QcG cs ρ dC dI (some (vI (wKind res))) σ'' (AW ρ s.heap.size)) (fun _ _ _ => False) (as.map (emb ρ)).toArray s 1 6 (AW ρ s.heap.size)) (mBytes w) cs ρ adV dC dI (AW ρ s.heap.size) (mMax w) 13 F hE (fun q hq => Or.inr hq) (by omega)
  have hstr2 := HS p e RR s mm (as.map (emb ρ)).toArray below meth c (0 + 1) (0 + 6) (vx_MQ below (QcG cs ρ dC dI (some (vI (wKind res))) σ'' (AW ρ s.heap.size)) (fun _ _ _ => False) (as.map (emb ρ)).toArray s 1 6 (AW ρ s.heap.size)) (mBytes w) cs ρ adV dC dI (AW ρ s.heap.size) (mMax w) 13 F2 hE (fun q hq => Or.inr hq) (by omega)
  have hlkS : (Cond.classLink "BentPennyLaw" 13 nsee).before (as.map (emb ρ)).toArray s = true := hts _ (GW_of hlk rfl)
  have hcast : (Cond.castable nsee nsee).before (as.map (emb ρ)).toArray s = true := hT.1.at_ _ (by decide +kernel)
  have htb := vx_table (x := mY w) B (hts0 _ List.mem_cons_self)
  have hend : ∀ (H : Heap) (locs : List Loc) (real : Array Slot) (pc : Nat) (σe : xSt) (k : Int), va_P (dC, dI) vwCl (wd cs ρ σe) H → va_S (AW ρ s.heap.size) s.heap H locs → InR σe → σe = σ'' → k = wKind res → in32 k → decode (mBytes w) pc = .ok (.ireturn, 1) →
      W p l e RR s mm (as.map (emb ρ)).toArray below meth c H locs (0 + 1) (0 + 6) (vx_MQ below (QcG cs ρ dC dI (some (vI (wKind res))) σ'' (AW ρ s.heap.size)) (fun _ _ _ => False) (as.map (emb ρ)).toArray s 1 6 (AW ρ s.heap.size)) (F0 mm pc real [.int (Int32.ofInt k)]) := by
    intro H locs real pc σe k h1 h2 h3 h4 h5 h6 h7
    subst h4
    subst h5
    refine vx_ret ?_
    exact W.iret B.exec B.bytes hr (fun t ht hW => ⟨rfl, by rw [ht]; exact h1, h2.F ht, h3, fun y hy => by cases hy; exact h6⟩) h2.2.2 h7
  have hk32 : in32 (wKind res) := by
    cases res with
    | none => exact (⟨by decide, by decide⟩ : in32 1)
    | some _ => exact (⟨by decide, by decide⟩ : in32 0)
  have hbody : WS p l e RR s mm (as.map (emb ρ)).toArray below meth c 0 0 (vx_MQ below (QcG cs ρ dC dI (some (vI (wKind res))) σ'' (AW ρ s.heap.size)) (fun _ _ _ => False) (as.map (emb ρ)).toArray s 1 6 (AW ρ s.heap.size)) cs ρ dC dI (AW ρ s.heap.size) s.heap (mMax w) (0, eP (mMax w) (eL as), [], σ) := by
    refine ws_steps F hstr hcd n1 _ _ hs1 ?_
    obtain ⟨hdP, hoP⟩ := hcd _ _ _ hP
    refine call_okT (d := d + 1) (adV := adV) (res := res) F hE hT (fun q hq => Or.inr hq) (by omega) (by omega) (by omega) (by omega) hdP hoP hca hin (fun ix n v nest _ hq => nest13 hq) (met_okT hl HS hinj N d t as' σ res σ' hC hm hth hσ has') ?_ ?_
    · intro hres H1 locs1 real ce q9 hRS hce hcv hclE
      obtain ⟨g1, g2, g3, g4, g5, g6, g7⟩ := hRS
      refine vx_catch (own := "BentPennyLaw") (name := nsee) (E := nsee) hown [] ⟨0, E, Hd, 13⟩ [] htb (fun z hz => nomatch hz) (by simp [covers, hPE]) (by show (13 : Nat) ≠ 0; decide) hlkS hcast hce hcv hclE ?_
      have hgo : ∀ real2 : Array Slot, W p l e RR s mm (as.map (emb ρ)).toArray below meth c H1 locs1 (0 + 1) (0 + 6) (vx_MQ below (QcG cs ρ dC dI (some (vI (wKind res))) σ'' (AW ρ s.heap.size)) (fun _ _ _ => False) (as.map (emb ρ)).toArray s 1 6 (AW ρ s.heap.size)) (F0 mm h2 real2 []) := by
        intro real2
        refine lv_iconst B.exec B.bytes (hcd _ _ _ hi1).1 rfl ?_
        exact hend H1 locs1 real2 _ σ' 1 g1 g2 g3 (hnone hres).symm (by rw [hres]; rfl) ⟨by decide, by decide⟩ (hcd _ _ _ hi2).1
      rcases hast with ⟨ha, rfl⟩ | ⟨k, hk, ha, rfl⟩
      · exact lv_astore B.exec B.bytes (hcd _ _ _ ha).1 g4 hxl rfl (fun real2 _ => hgo real2)
      · exact lv_astore_n B.exec B.bytes (hcd _ _ _ ha).1 hk g4 hxl rfl (fun real2 _ => hgo real2)
    · intro r hres
      obtain ⟨ls2, hst2⟩ := hret r hres
      refine ws_steps F2 hstr2 hcd n2 _ _ hst2 ?_
      intro H1 locs1 real hRS
      obtain ⟨g1, g2, g3, g4, g5, g6, g7⟩ := hRS
      exact hend H1 locs1 real pcE σ'' 0 g1 g2 g3 rfl (by rw [hres]; rfl) ⟨by decide, by decide⟩ (hcd _ _ _ hpcE).1
  rw [lg_entry_eq]
  have hle2 := lv_entry (as.map (emb ρ)) (n := mMax w) (by rw [eL_len]; exact hle)
  exact hbody s.heap [] _ ⟨hPw, va_S.rf, hσ, lv_more hle2 lvL_of, eP_len _ _ hle, fun v hv => ok_eL has v (by
    obtain ⟨j, hj⟩ := List.getElem?_of_mem hv
    exact List.mem_of_getElem? (eP_at _ _ j v hj)), fun v hv => nomatch hv⟩
end WRAP
