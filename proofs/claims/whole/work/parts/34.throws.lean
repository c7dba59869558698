/-! METHODS THAT THROW -/
def nsee : String := "java/util/NoSuchElementException"
def thrN : List String := ["java/lang/RuntimeException", "java/lang/Exception"]
def thrL : List Cond := Cond.classLink "BentPenny" 165 nsee :: Cond.initialized nsee :: vx_at0 "BentPenny" 167 nsee thrN
theorem thr_w1 : thrL.all (fun w => decide (w ∈ tables_1)) = true := by decide +kernel
theorem thr_w2 : thrL.all (fun w => vx_ot w) = true := by decide +kernel
theorem thr_tabs : thrL.all Cond.tabsOnly = true := by decide +kernel
theorem thr_fit : Bundle.fit nsee = true ∧ ∀ n ∈ thrN, Bundle.fit n = true := ⟨by decide +kernel, by decide +kernel⟩
theorem thr_flags {l : Launch} (h : l.flags = flags0) : l.stackTraces = false := by
  unfold Launch.stackTraces
  rw [h]
  decide +kernel
def ThrWs (U : State) : Prop := ∀ w ∈ thrL, w.before #[] U = true
theorem setVm_self_ (U : State) : U.setVm U.vm = U := by cases U; rfl
theorem ThrWs.at_ {U : State} (h : ThrWs U) {a' : Array Value} : ∀ w ∈ thrL, w.before a' U = true := by
  intro w hw
  have h1 := Cond.tabsOnly_warm (args' := a') (T := U) (State.WarmedH.refl U) w (List.all_eq_true.mp thr_tabs w hw) (h w hw)
  rwa [setVm_self_] at h1
theorem ThrWs.warm {s U : State} (hW : s.WarmedH U.vm) (h : ThrWs s) : ThrWs U := by
  intro w hw
  have h1 := Cond.tabsOnly_warm (args' := #[]) (T := U) hW w (List.all_eq_true.mp thr_tabs w hw) (h w hw)
  rwa [setVm_self_] at h1
def ThrEnv (A : Nat → Prop) (U : State) : Prop := ThrWs U ∧ vx_Zq Bundle.tN "UNASSIGNED_STACK" Bundle.steD A U U.heap ∧ vx_Zq Bundle.tN "SUPPRESSED_SENTINEL" Bundle.listD A U U.heap
theorem ThrEnv.callee {A B : Nat → Prop} {s U : State} {H : Heap} {locs : List Loc} (h : ThrEnv A s) (hW : s.WarmedH U.vm) (hU : U.heap = H) (hS : va_S A s.heap H locs) (hAB : ∀ q, B q → A q) : ThrEnv B U := by
  obtain ⟨h1, h2, h3⟩ := h
  refine ⟨h1.warm hW, ?_, ?_⟩
  · rw [hU]
    exact vx_Zq.narrow (vx_Zq.moved hW.alike (h2.kept hS.2.1)) hAB
  · rw [hU]
    exact vx_Zq.narrow (vx_Zq.moved hW.alike (h3.kept hS.2.1)) hAB
theorem ThrEnv.same {A : Nat → Prop} {s U : State} (h : ThrEnv A s) (hv : U.vm = s.vm) (hU : U.heap = s.heap) : ThrEnv A U := by
  have hal : s.vm.Alike U.vm := by rw [hv]; exact Vm.Alike.refl _
  have hW : s.WarmedH U.vm := by rw [hv]; exact State.WarmedH.refl s
  obtain ⟨h1, h2, h3⟩ := h
  refine ⟨h1.warm hW, ?_, ?_⟩
  · rw [hU]
    exact vx_Zq.moved hal h2
  · rw [hU]
    exact vx_Zq.moved hal h3
/-- a throwing method's start -/
def PcT (cs ρ adV : Nat → Nat) (dC : Nat → ClassId) (dI : Nat → Nat → Nat) (as : List xV) (σ : xSt) (sz : Nat) : Array Value → State → Prop :=
  va_Pc (as.map (emb ρ)) (fun U => U.heap.size = sz ∧ va_P (dC, dI) vwCl (wd cs ρ σ) U.heap ∧ va_K (dC, dI) vwCl (wtys cs) U ∧ NWs U ∧ StrEnv ρ adV (AW ρ sz) U ∧ ThrEnv (AW ρ sz) U)
theorem PcT_blind {cs ρ adV : Nat → Nat} {dC : Nat → ClassId} {dI : Nat → Nat → Nat} {as : List xV} {σ : xSt} {sz : Nat} : FrameBlind (PcT cs ρ adV dC dI as σ sz) := by
  intro a U g mk h
  obtain ⟨h0, h1, h2, h3, h4, h5, h6⟩ := h
  exact ⟨h0, h1, h2, va_K.moved (u := U) (U := U.calling g mk a) (Vm.Alike.refl U.vm) h3, NWs.same (s := U) rfl h4, StrEnv.same (s := U) h5 rfl rfl, ThrEnv.same (s := U) h6 rfl rfl⟩
/-- its ends -/
def QcT (cs ρ : Nat → Nat) (dC : Nat → ClassId) (dI : Nat → Nat → Nat) (res : xR) (σ' : xSt) (A : Nat → Prop) : Array Value → State → Outcome → State → Prop :=
  fun a st oc t => ∃ r, res = some r ∧ QcG cs ρ dC dI r σ' A a st oc t
def XcT (cs ρ : Nat → Nat) (dC : Nat → ClassId) (dI : Nat → Nat → Nat) (res : xR) (σ' : xSt) (A : Nat → Prop) : String → State → State → Prop :=
  fun E st t => res = none ∧ E = nsee ∧ va_P (dC, dI) vwCl (wd cs ρ σ') t.heap ∧ va_F A st t ∧ InR σ'
def MetT (l : Launch) (cs ρ adV : Nat → Nat) (dC : Nat → ClassId) (dI : Nat → Nat → Nat) (d m : Nat) (as : List xV) (σ : xSt) (res : xR) (σ' : xSt) : Prop :=
  ∀ sz, vx_Met l (mY m) (Cond.code (mY m) (mBytes m) (mMax m) (mRet m) :: GW) { rmD d with cells := 1, slots := 6 } (PcT cs ρ adV dC dI as σ sz) (QcT cs ρ dC dI res σ' (AW ρ sz)) (XcT cs ρ dC dI res σ' (AW ρ sz)) 1 6 (AW ρ sz)
/-- 'throw new E()' as the code has it -/
def thrAt (k : Nat → Option (Instr × Nat)) (pc i : Nat) : Bool := Nat.beq i 165 && decide (k (pc + 3) = some (.dup, 1)) && decide (k (pc + 4) = some (.invokespecial 167, 3)) && decide (k (pc + 7) = some (.athrow, 1))
def thrB (k : Nat → Option (Instr × Nat)) (n : Nat) : Bool := (List.range n).all (fun pc => match k pc with
  | some (.new i, _) => thrAt k pc i
  | _ => true)
def ThrCode (m : Nat) : Prop := mOwn m = 11 ∧ ∀ pc i len, mCode m pc = some (.new i, len) → thrAt (mCode m) pc i = true
theorem thr_of {n : Nat} {k : Nat → Option (Instr × Nat)} (h : thrB k n = true) (hk : ∀ pc, n ≤ pc → k pc = none) : ∀ pc i len, k pc = some (.new i, len) → thrAt k pc i = true := by
  intro pc i len hi
  rcases Nat.lt_or_ge pc n with hq | hq
  · have h1 := List.all_eq_true.mp h pc (List.mem_range.mpr hq)
    rw [hi] at h1
    exact h1
  · rw [hk pc hq] at hi
    cases hi
theorem thc_thing : ThrCode 156 := ⟨rfl, thr_of (k := kX11_thing) (n := 83) (by decide +kernel) (fun pc h => by unfold kX11_thing; rw [blt_ge h]; rfl)⟩
theorem thc_chance : ThrCode 164 := ⟨rfl, thr_of (k := kX11_chance) (n := 86) (by decide +kernel) (fun pc h => by unfold kX11_chance; rw [blt_ge h]; rfl)⟩
theorem thc_chanceAt : ThrCode 165 := ⟨rfl, thr_of (k := kX11_chanceAt) (n := 63) (by decide +kernel) (fun pc h => by unfold kX11_chanceAt; rw [blt_ge h]; rfl)⟩
theorem thc_mean : ThrCode 166 := ⟨rfl, thr_of (k := kX11_mean) (n := 46) (by decide +kernel) (fun pc h => by unfold kX11_mean; rw [blt_ge h]; rfl)⟩
theorem thc_poly : ThrCode 169 := ⟨rfl, thr_of (k := kX11_poly) (n := 122) (by decide +kernel) (fun pc h => by unfold kX11_poly; rw [blt_ge h]; rfl)⟩
theorem thc_countedMean : ThrCode 179 := ⟨rfl, thr_of (k := kX11_countedMean) (n := 81) (by decide +kernel) (fun pc h => by unfold kX11_countedMean; rw [blt_ge h]; rfl)⟩
theorem thc_fewest : ThrCode 182 := ⟨rfl, thr_of (k := kX11_fewest) (n := 52) (by decide +kernel) (fun pc h => by unfold kX11_fewest; rw [blt_ge h]; rfl)⟩
theorem thc_off : ThrCode 184 := ⟨rfl, thr_of (k := kX11_off) (n := 62) (by decide +kernel) (fun pc h => by unfold kX11_off; rw [blt_ge h]; rfl)⟩
theorem thc_mixed : ThrCode 185 := ⟨rfl, thr_of (k := kX11_mixed) (n := 76) (by decide +kernel) (fun pc h => by unfold kX11_mixed; rw [blt_ge h]; rfl)⟩
theorem thc_luck : ThrCode 186 := ⟨rfl, thr_of (k := kX11_luck) (n := 100) (by decide +kernel) (fun pc h => by unfold kX11_luck; rw [blt_ge h]; rfl)⟩
theorem thc_seldom : ThrCode 190 := ⟨rfl, thr_of (k := kX11_seldom) (n := 35) (by decide +kernel) (fun pc h => by unfold kX11_seldom; rw [blt_ge h]; rfl)⟩
theorem thc_bestMean : ThrCode 192 := ⟨rfl, thr_of (k := kX11_bestMean) (n := 41) (by decide +kernel) (fun pc h => by unfold kX11_bestMean; rw [blt_ge h]; rfl)⟩
section BODYT
variable {p : Program} {l : Launch} {e : Env} {R : Room} {s : State} {m : MethodId} {args : Array Value} {below : List Frame} {meth : Method} {c : Code} {cells slots : Nat} {Q : State → Prop} {cc : ByteArray}
variable {cs ρ adV : Nat → Nat} {dC : Nat → ClassId} {dI : Nat → Nat → Nat} {A : Nat → Prop} {nL own : Nat} {sc : xSc}
set_option maxHeartbeats 1000000 in
/-- a body: from any place from which the reader comes to its end -/
theorem body_okT {d rk : Nat} {call : xCall} {cd : Nat → Option (Instr × Nat)} (ho : own < 13) (F : FrOk p R s m args c cells slots cc cs ρ dC dI A nL own) (hE : StrEnv ρ adV A s) (hAn : ∀ q, s.heap.size ≤ q → A q) (hRfr : d + 9 ≤ R.frames) (hRlo : 36 * d + 236 ≤ R.locals)
    (hsc : ScOk sc ρ A s s.heap) (hstr : StrOk p l e R s m args below meth c cells slots Q cc ρ A s.heap nL own) (hcd : CdOk own cc cd)
    (hcall : ∀ m2 as σ r σ', call m2 as σ = some (some r, σ') → (∃ q ∈ mP, q.1 = m2) → InR σ → (∀ v ∈ as, okV v) → MetG l cs ρ adV dC dI d m2 as σ r σ' 0 0)
    {res : xR} {σ' : xSt} (hfin : ∀ pc i len ls st, cd pc = some (i, len) → xretI own rk st i = some res → WS p l e R s m args below meth c cells slots Q cs ρ dC dI A s.heap nL (pc, ls, st, σ')) :
    ∀ (n : Nat) (q : xS), runI sc call own rk cd n q = some (res, σ') → WS p l e R s m args below meth c cells slots Q cs ρ dC dI A s.heap nL q := by
  intro n
  induction n with
  | zero => exact fun q h => nomatch h
  | succ n ih =>
    intro q h
    obtain ⟨pc, ls, st, σ⟩ := q
    unfold runI at h
    split at h
    case h_1 => exact nomatch h
    case h_2 i len hi_ =>
      obtain ⟨hdg, hok⟩ := hcd pc i len hi_
      split at h
      case h_1 r2 hr_ =>
        cases h
        exact hfin pc i len ls st hi_ hr_
      case h_2 hr_ =>
        split at h
        case h_1 m2 as st' hcl_ =>
          split at h
          case h_2 => exact nomatch h
          case h_1 v σ2 hca_ =>
            have hk_ := ih _ h
            intro H locs real hR
            have hin_ : ∀ ix n v, mth own ix = some (m2, n, v) → ∃ q ∈ mP, q.1 = m2 ∧ (v = 0 ↔ q.2.2.2.2 = 0) := fun ix n v hq => mth_in ho hq
            have hex_ : ∃ q ∈ mP, q.1 = m2 := by
              cases i <;> try (simp only [xcallI, reduceCtorEq] at hcl_; done)
              case invokestatic ix =>
                dsimp only [xcallI] at hcl_
                split at hcl_
                case h_2 => exact nomatch hcl_
                case h_1 m3 n3 hmt_ =>
                  split at hcl_
                  case h_2 => exact nomatch hcl_
                  case h_1 as3 st3 hpo_ =>
                    cases hbs_ : Nat.ble (st3.map xcat).sum 8 with
                    | false =>
                      rw [hbs_] at hcl_
                      cases hcl_
                    | true =>
                      rw [hbs_] at hcl_
                      cases hcl_
                      obtain ⟨q, h1, h2, -⟩ := mth_in ho hmt_
                      exact ⟨q, h1, h2⟩
              case invokevirtual ix =>
                dsimp only [xcallI] at hcl_
                split at hcl_
                case h_2 => exact nomatch hcl_
                case h_1 m3 n3 hmt_ =>
                  split at hcl_
                  case h_2 => exact nomatch hcl_
                  case h_1 as3 st3 hpo_ =>
                    cases hbs_ : (recvOk m3 as3 && Nat.ble (st3.map xcat).sum 8) with
                    | false =>
                      rw [hbs_] at hcl_
                      cases hcl_
                    | true =>
                      rw [hbs_] at hcl_
                      cases hcl_
                      obtain ⟨q, h1, h2, -⟩ := mth_in ho hmt_
                      exact ⟨q, h1, h2⟩
            have has_ : ∀ v ∈ as, okV v := by
              have hos : ∀ w ∈ st, okV w := hR.2.2.2.2.2.2
              cases i <;> try (simp only [xcallI, reduceCtorEq] at hcl_; done)
              case invokestatic ix =>
                dsimp only [xcallI] at hcl_
                split at hcl_
                case h_2 => exact nomatch hcl_
                case h_1 m3 n3 hmt_ =>
                  split at hcl_
                  case h_2 => exact nomatch hcl_
                  case h_1 as3 st3 hpo_ =>
                    cases hbs_ : Nat.ble (st3.map xcat).sum 8 with
                    | false =>
                      rw [hbs_] at hcl_
                      cases hcl_
                    | true =>
                      rw [hbs_] at hcl_
                      cases hcl_
                      obtain ⟨h1, -⟩ := xpop_of _ _ _ _ _ hpo_
                      intro w hw
                      refine hos w ?_
                      have hz_ : w ∈ as.reverse ++ st' := List.mem_append_left _ (List.mem_reverse.mpr hw)
                      rw [h1] at hz_
                      exact hz_
              case invokevirtual ix =>
                dsimp only [xcallI] at hcl_
                split at hcl_
                case h_2 => exact nomatch hcl_
                case h_1 m3 n3 hmt_ =>
                  split at hcl_
                  case h_2 => exact nomatch hcl_
                  case h_1 as3 st3 hpo_ =>
                    cases hbs_ : (recvOk m3 as3 && Nat.ble (st3.map xcat).sum 8) with
                    | false =>
                      rw [hbs_] at hcl_
                      cases hcl_
                    | true =>
                      rw [hbs_] at hcl_
                      cases hcl_
                      obtain ⟨h1, -⟩ := xpop_of _ _ _ _ _ hpo_
                      intro w hw
                      refine hos w ?_
                      have hz_ : w ∈ as.reverse ++ st' := List.mem_append_left _ (List.mem_reverse.mpr hw)
                      rw [h1] at hz_
                      exact hz_
            have hM_ := hcall m2 as σ v σ2 hca_ hex_ hR.2.2.1 has_
            exact call_ok (mc := 0) (ms := 0) F hE hAn hRfr hRlo F.2.2.2.2.2.2.2.2.2.2.2.2.1 F.2.2.2.2.2.2.2.2.2.2.2.2.2 hdg hok hcl_ hin_ hM_ hk_ H locs real hR
        case h_2 hcl_ =>
          split at h
          case h_2 => exact nomatch h
          case h_1 q2 hst_ =>
            exact step_ok F hsc hstr hdg hok hst_ (ih _ h)
end BODYT
theorem x_widen {p : Program} {l : Launch} {e : Env} {R : Room} {s : State} {m : MethodId} {args : Array Value} {below : List Frame} {meth : Method} {c : Code} {H : Heap} {locs : List Loc} {cells slots : Nat} {Q : State → Prop} {g : JFrame} {k n : Nat} (h1 : cells ≤ k) (h2 : slots ≤ n) (kk : W p l e R s m args below meth c H locs k n Q g) : W p l e R s m args below meth c H locs cells slots Q g := fun T hT X => kk T hT (stand_widen X h1 h2)
set_option maxHeartbeats 2000000 in
/-- a throwing method: where the reader's call comes to an end, the machine's does -/
theorem met_okT {l : Launch} (hl : l.stackTraces = false) (HS : StrLaw l) {cs ρ adV : Nat → Nat} {dC : Nat → ClassId} {dI : Nat → Nat → Nat} (hinj : ∀ a b, a < xNA → b < xNA → ρ a = ρ b → a = b) (N : Nat) :
    ∀ (d m : Nat) (as : List xV) (σ : xSt) (res : xR) (σ' : xSt), callD N (d + 1) m as σ = some (res, σ') → (∃ q ∈ mP, q.1 = m) → ThrCode m → InR σ → (∀ v ∈ as, okV v) → MetT l cs ρ adV dC dI (d + 1) m as σ res σ' := by
  intro d m as σ res σ' h hm hth hσ has sz
  have hrun : Nat.ble (eL as).length (mMax m) = true ∧ runI none (callD N d) (mOwn m) (mRk m) (mCode m) N (0, eP (mMax m) (eL as), [], σ) = some (res, σ') := by
    unfold callD at h
    cases hb_ : Nat.ble (eL as).length (mMax m) with
    | false =>
      rw [hb_] at h
      cases h
    | true =>
      rw [hb_] at h
      exact ⟨rfl, h⟩
  obtain ⟨hle_, hrun⟩ := hrun
  have hle_ : (eL as).length ≤ mMax m := Nat.le_of_ble_eq_true hle_
  obtain ⟨q, hq, hqm⟩ := hm
  obtain ⟨f1_, f2_, f3_, f4_, -, -⟩ := mP_facts hq
  have hcd_ := cd_in hq
  obtain ⟨k0_, k1_, k2_, k3_, k4_⟩ := rk_of hq
  have ho_ := mOwn_lt hq
  unfold cdQ at hcd_
  rw [hqm] at f1_ f2_ f3_ f4_ hcd_ k0_ k1_ k2_ k3_ k4_ ho_
  refine vx_ofW (cc := mBytes m) (maxL := mMax m) (ret := mRet m) f3_ rfl ?_
  intro p e s mm args below meth c s₁ B hml htab hv
  obtain ⟨rfl, hsz, hP, hK, hN, hE, hT⟩ := hv
  subst hsz
  have hts0 := atoms_spec (ws := Cond.code (mY m) (mBytes m) (mMax m) (mRet m) :: GW) B.pre
  have hts : ∀ w ∈ GW, w.before (as.map (emb ρ)).toArray s = true := fun w hw => hts0 w (List.mem_cons_of_mem _ hw)
  have hown : s.vm.findClass (cnm (mOwn m)) = some mm.cls := by
    rw [← f2_]
    exact findClass_of_methodNamed B.named
  have hlocks := B.notSynchronized
  have hr := B.returns
  have hAr : ∀ a, a < xNA → AW ρ s.heap.size (ρ a) := fun a ha => Or.inl ⟨a, ha, rfl⟩
  obtain ⟨RR, hRR⟩ : ∃ z, z = (headSpec (Cond.code (mY m) (mBytes m) (mMax m) (mRet m) :: GW) { rmD (d + 1) with cells := 1, slots := 6 }).room := ⟨_, rfl⟩
  have hRf : RR.frames = d + 1 + 8 := by rw [hRR]; rfl
  have hRl : RR.locals = 36 * (d + 1) + 200 := by rw [hRR]; rfl
  have hRc : RR.cells = 1 := by rw [hRR]; rfl
  have hRs : RR.slots = 6 := by rw [hRR]; rfl
  rw [← hRR]
  have F : FrOk p RR s mm (as.map (emb ρ)).toArray c 0 0 (mBytes m) cs ρ dC dI (AW ρ s.heap.size) (mMax m) (mOwn m) :=
    ⟨B.exec, B.bytes, hml, hown, hts, hN, hK, hinj, hAr, hE.1 (mOwn m), by omega, by omega, Nat.zero_le _, Nat.zero_le _⟩
  have hstr := HS p e RR s mm (as.map (emb ρ)).toArray below meth c 0 0 (vx_MQ below (QcT cs ρ dC dI res σ' (AW ρ s.heap.size)) (XcT cs ρ dC dI res σ' (AW ρ s.heap.size)) (as.map (emb ρ)).toArray s 1 6 (AW ρ s.heap.size)) (mBytes m) cs ρ adV dC dI (AW ρ s.heap.size) (mMax m) (mOwn m) F hE (fun q hq => Or.inr hq) (by omega)
  have hfin : ∀ pc i len ls st, mCode m pc = some (i, len) → xretI (mOwn m) (mRk m) st i = some res → WS p l e RR s mm (as.map (emb ρ)).toArray below meth c 0 0 (vx_MQ below (QcT cs ρ dC dI res σ' (AW ρ s.heap.size)) (XcT cs ρ dC dI res σ' (AW ρ s.heap.size)) (as.map (emb ρ)).toArray s 1 6 (AW ρ s.heap.size)) cs ρ dC dI (AW ρ s.heap.size) s.heap (mMax m) (pc, ls, st, σ') := by
    intro pc i len ls st hi hret H locs real hR
    obtain ⟨hP2, hS2, hσ2, hl2, hn2, hol2, hos2⟩ := hR
    obtain ⟨hdg, hok⟩ := hcd_ pc i len hi
    have hq_ : ∀ w : Option xV, (∀ x, w = some x → okV x) → res = some w → ∀ t : State, t.heap = H → s.WarmedH t.vm → QcT cs ρ dC dI res σ' (AW ρ s.heap.size) (as.map (emb ρ)).toArray s (.returned (w.map (emb ρ))) t := by
      intro w hw hrw t ht hW
      refine ⟨w, hrw, rfl, by rw [ht]; exact hP2, hS2.F ht, hσ2, fun x hx => hw x hx⟩
    cases i <;> try (simp only [xretI, reduceCtorEq] at hret; done)
    case ireturn =>
      have hlen := Nat.eq_of_beq_eq_true hok
      subst hlen
      dsimp only [xretI] at hret
      split at hret
      case h_2 => exact nomatch hret
      case h_1 x =>
        have hxo_ : okV (vI x) := hos2 _ List.mem_cons_self
        cases hb1_ : Nat.beq (mRk m) 1 with
        | true =>
          rw [hb1_] at hret
          cases hret
          refine x_widen (k := 1) (n := 6) (by omega) (by omega) (vx_ret ?_)
          exact W.iret B.exec B.bytes (by rw [hr, k1_ (Nat.eq_of_beq_eq_true hb1_)]) (hq_ (some (vI x)) (fun y hy => by cases hy; exact hxo_) rfl) hS2.2.2 hdg
        | false =>
          rw [hb1_] at hret
          dsimp only [cond_false] at hret
          cases hb2_ : Nat.beq (mRk m) 2 with
          | false =>
            rw [hb2_] at hret
            cases hret
          | true =>
            rw [hb2_] at hret
            cases hret
            refine x_widen (k := 1) (n := 6) (by omega) (by omega) (vx_ret ?_)
            exact x_zret B.exec B.bytes (by rw [hr, k2_ (Nat.eq_of_beq_eq_true hb2_)]) (narrowZ x) (hq_ (some (vI (xnb x))) (fun y hy => by cases hy; exact n_nb_in x) rfl) hS2.2.2 hdg hlocks
    case lreturn =>
      have hlen := Nat.eq_of_beq_eq_true hok
      subst hlen
      dsimp only [xretI] at hret
      split at hret
      case h_2 => exact nomatch hret
      case h_1 x =>
        have hxo_ : okV (vL x) := hos2 _ List.mem_cons_self
        cases hb1_ : Nat.beq (mRk m) 3 with
        | false =>
          rw [hb1_] at hret
          cases hret
        | true =>
          rw [hb1_] at hret
          cases hret
          refine x_widen (k := 1) (n := 6) (by omega) (by omega) (vx_ret ?_)
          exact W.lret B.exec B.bytes (by rw [hr, k3_ (Nat.eq_of_beq_eq_true hb1_)]) (hq_ (some (vL x)) (fun y hy => by cases hy; exact hxo_) rfl) hS2.2.2 hdg
    case areturn =>
      have hlen := Nat.eq_of_beq_eq_true hok
      subst hlen
      dsimp only [xretI] at hret
      split at hret
      case h_2 => exact nomatch hret
      case h_1 x =>
        cases hb1_ : Nat.beq (mRk m) 4 with
        | false =>
          rw [hb1_] at hret
          cases hret
        | true =>
          rw [hb1_] at hret
          cases hret
          refine x_widen (k := 1) (n := 6) (by omega) (by omega) (vx_ret ?_)
          cases x with
          | none => exact W.aret B.exec B.bytes (by rw [hr, k4_ (Nat.eq_of_beq_eq_true hb1_)]) (Or.inl ⟨_, rfl⟩) (Or.inl rfl) (hq_ (some vN) (fun y hy => by cases hy; trivial) rfl) hS2.2.2 hdg
          | some a => exact W.aret B.exec B.bytes (by rw [hr, k4_ (Nat.eq_of_beq_eq_true hb1_)]) (Or.inl ⟨_, rfl⟩) (Or.inr ⟨_, rfl⟩) (hq_ (some (vR a)) (fun y hy => by cases hy; trivial) rfl) hS2.2.2 hdg
    case return_ =>
      have hlen := Nat.eq_of_beq_eq_true hok
      subst hlen
      dsimp only [xretI] at hret
      split at hret
      case h_2 => exact nomatch hret
      case h_1 =>
        cases hb1_ : Nat.beq (mRk m) 0 with
        | false =>
          rw [hb1_] at hret
          cases hret
        | true =>
          rw [hb1_] at hret
          cases hret
          refine x_widen (k := 1) (n := 6) (by omega) (by omega) (vx_ret ?_)
          exact W.vret B.exec B.bytes (by rw [hr, k0_ (Nat.eq_of_beq_eq_true hb1_)]) (hq_ none (fun y hy => nomatch hy) rfl) hS2.2.2 hdg
    case new ix =>
      have hlen := Nat.eq_of_beq_eq_true hok
      subst hlen
      have hres : res = none ∧ st = [] := by
        dsimp only [xretI] at hret
        split at hret
        · exact ⟨(Option.some.inj hret).symm, rfl⟩
        · exact nomatch hret
      obtain ⟨hres, rfl⟩ := hres
      have hpat := hth.2 pc ix 3 hi
      unfold thrAt at hpat
      simp only [Bool.and_eq_true, decide_eq_true_eq] at hpat
      obtain ⟨⟨⟨hp0, hp3⟩, hp4⟩, hp7⟩ := hpat
      have hix := Nat.eq_of_beq_eq_true hp0
      subst hix
      have hownX : s.vm.findClass "BentPenny" = some mm.cls := by
        have := hown
        rw [hth.1] at this
        exact this
      have hws := hT.1.at_ (a' := (as.map (emb ρ)).toArray)
      have hgd : ∀ w ∈ thrL, vx_ot w = true := fun w hw => List.all_eq_true.mp thr_w2 w hw
      refine vx_throw0 (cc := mBytes m) (own := "BentPenny") (cls := nsee) (names := thrN) (ik := 165) (ic := 167) (A := AW ρ s.heap.size) B.exec B.bytes hl hownX thr_fit.1 thr_fit.2 (hws _ List.mem_cons_self) (hws _ (List.mem_cons_of_mem _ List.mem_cons_self)) (fun w hw => hws w (List.mem_cons_of_mem _ (List.mem_cons_of_mem _ hw)))
        (fun w hw => hgd w hw) hT.2.1 hT.2.2 hS2 (by rw [hml]; exact hl2.1) hdg (hcd_ _ _ _ hp3).1 (hcd_ _ _ _ hp4).1 (hcd_ _ _ _ hp7).1 (fun x hx => (htab x hx).elim) (by rw [hRf]; show 2 + 3 < d + 1 + 8; omega) ?_ (by omega) (by omega) hlocks ?_ hS2.2.2 (by omega) (by omega)
      · rw [hRl]
        show (0 : Nat) + (13 * (2 + 1) + 42) ≤ 36 * (d + 1) + 200
        omega
      · intro t hal hsz hkp
        refine ⟨hres, rfl, hP2.kept (fun k q hk => hkp _ (va_at.lt (hP2 k q hk))), ⟨Nat.le_trans hS2.1 hsz, fun q h1 h2 => ?_⟩, hσ2⟩
        rw [hkp q (Nat.lt_of_lt_of_le h1 hS2.1)]
        exact hS2.2.1 q h1 h2
  have hbody := body_okT (sc := none) (adV := adV) (l := l) (nL := mMax m) (res := res) ho_ F hE (fun q hq => Or.inr hq) (by omega) (by omega) (fun n f hq => nomatch hq) hstr hcd_ (fun m2 as2 σ2 r2 σ2' h1 h2 h3 h4 => met_ok HS hinj N d m2 as2 σ2 r2 σ2' h1 h2 h3 h4) hfin N _ hrun
  rw [lg_entry_eq]
  have hle2 := lv_entry (as.map (emb ρ)) (n := mMax m) (by rw [eL_len]; exact hle_)
  exact hbody s.heap [] _ ⟨hP, va_S.rf, hσ, lv_more hle2 lvL_of, eP_len _ _ hle_, fun v hv => ok_eL has v (by
    obtain ⟨j, hj⟩ := List.getElem?_of_mem hv
    exact List.mem_of_getElem? (eP_at _ _ j v hj)), fun v hv => nomatch hv⟩
