/-! CONSTRUCTORS: where the concrete reader comes to their end, the machine does -/
set_option maxHeartbeats 2000000 in
theorem bStep_mono {own pc : Nat} {ls : xL} {st : List xV} {Wd : bW} {i : Instr} {q' : bS} (hst : bStep own pc ls st Wd i = some q') : Wd.length ≤ q'.2.2.2.length ∧ bSl Wd ≤ bSl q'.2.2.2 := by
  have hself : ∀ {a kd n : Nat} {f : Nat → xV} (kd2 : Nat) (f2 : Nat → xV), Wd[a]? = some (kd, n, f) → Wd.length ≤ (Wd.set a (kd2, n, f2)).length ∧ bSl Wd ≤ bSl (Wd.set a (kd2, n, f2)) := fun kd2 f2 h1 => ⟨by simp, by rw [bSl_set h1 (show ((kd2, _, f2) : bC).2.1 = _ from rfl)]; exact Nat.le_refl _⟩
  have happ : ∀ (c : bC), Wd.length ≤ (Wd ++ [c]).length ∧ bSl Wd ≤ bSl (Wd ++ [c]) := fun c => ⟨by simp, by rw [bSl_app]; omega⟩
  cases i <;> (try (cases hst; done)) <;> simp only [bStep, Bool.cond_eq_ite] at hst <;> (repeat' split at hst) <;> (try (cases hst; done)) <;> cases hst <;> first | exact ⟨Nat.le_refl _, Nat.le_refl _⟩ | exact happ _ | exact hself _ _ (by assumption)
theorem runC_mono {call : Nat → List xV → bW → Option bW} (hc : ∀ ci as Wd Wd', call ci as Wd = some Wd' → Wd.length ≤ Wd'.length ∧ bSl Wd ≤ bSl Wd') {own : Nat} {cd : Nat → Option (Instr × Nat)} {stop : Nat} : ∀ (n : Nat) (q q' : bS), runC call own cd stop n q = some q' → q.2.2.2.length ≤ q'.2.2.2.length ∧ bSl q.2.2.2 ≤ bSl q'.2.2.2 := by
  intro n
  induction n with
  | zero => exact fun q q' h => nomatch h
  | succ n ih =>
    intro q q' h
    obtain ⟨pc, ls, st, Wd⟩ := q
    unfold runC at h
    simp only [Bool.cond_eq_ite] at h
    split at h
    · cases h
      exact ⟨Nat.le_refl _, Nat.le_refl _⟩
    · split at h
      · exact nomatch h
      · split at h
        · split at h
          · split at h
            · split at h
              · rename_i hcl_
                have h1 := hc _ _ _ _ hcl_
                have h2 := ih _ _ h
                exact ⟨Nat.le_trans h1.1 h2.1, Nat.le_trans h1.2 h2.2⟩
              · exact nomatch h
            · exact nomatch h
          · split at h
            · rename_i hs_
              have h1 := bStep_mono hs_
              have h2 := ih _ _ h
              exact ⟨Nat.le_trans h1.1 h2.1, Nat.le_trans h1.2 h2.2⟩
            · exact nomatch h
        · exact nomatch h
theorem callC_run {d ci : Nat} {as : List xV} {Wd Wd' : bW} (h : callC (d + 1) ci as Wd = some Wd') : (eL as).length ≤ mMax (iMid ci) ∧ ∃ pc ls, runC (callC d) ci (bCode ci) (bEnd ci) 2000 (0, eP (mMax (iMid ci)) (eL as), [], Wd) = some (pc, ls, [], Wd') := by
  unfold callC at h
  simp only [Bool.cond_eq_ite] at h
  split at h
  · rename_i hb_
    refine ⟨Nat.le_of_ble_eq_true hb_, ?_⟩
    split at h
    · rename_i hr_
      cases h
      exact ⟨_, _, hr_⟩
    · exact nomatch h
  · exact nomatch h
theorem callC_mono : ∀ (d ci : Nat) (as : List xV) (Wd Wd' : bW), callC d ci as Wd = some Wd' → Wd.length ≤ Wd'.length ∧ bSl Wd ≤ bSl Wd' := by
  intro d
  induction d with
  | zero => exact fun ci as Wd Wd' h => nomatch h
  | succ d ih =>
    intro ci as Wd Wd' h
    obtain ⟨-, pc, ls, hr⟩ := callC_run h
    exact runC_mono ih _ _ _ hr
/-- what a constructor may write -/
def AB (ρ : Nat → Nat) (n sz : Nat) : Nat → Prop := fun q => (∃ a, a < n ∧ q = ρ a) ∨ sz ≤ q
def PcB (cs ρ : Nat → Nat) (dC : Nat → ClassId) (dI : Nat → Nat → Nat) (as : List xV) (Wd : bW) (sz : Nat) : Array Value → State → Prop :=
  va_Pc (as.map (emb ρ)) (fun U => U.heap.size = sz ∧ va_P (dC, dI) vwCl (bwd cs ρ Wd) U.heap ∧ va_D (AB ρ Wd.length sz) (bwd cs ρ Wd) ∧ va_K (dC, dI) vwCl (wtys cs) U ∧ NWs U ∧ va_AO "BentPenny$State" U)
def QcB (cs ρ : Nat → Nat) (dC : Nat → ClassId) (dI : Nat → Nat → Nat) (Wd Wd' : bW) (sz : Nat) : Array Value → State → Outcome → State → Prop :=
  fun _ st oc t => oc = .returned none ∧ (∃ ρ', bAg Wd.length ρ ρ' ∧ va_P (dC, dI) vwCl (bwd cs ρ' Wd') t.heap ∧ va_D (AB ρ Wd.length sz) (bwd cs ρ' Wd')) ∧ va_F (AB ρ Wd.length sz) st t
def MetB (l : Launch) (cs : Nat → Nat) (dC : Nat → ClassId) (dI : Nat → Nat → Nat) (d ci : Nat) (as : List xV) (Wd Wd' : bW) : Prop :=
  ∀ (ρ : Nat → Nat) (sz : Nat), Met l (mY (iMid ci)) (Cond.code (mY (iMid ci)) (mBytes (iMid ci)) (mMax (iMid ci)) none :: GW) { rmD d with cells := Wd'.length - Wd.length, slots := bSl Wd' - bSl Wd } (PcB cs ρ dC dI as Wd sz) (QcB cs ρ dC dI Wd Wd' sz) (Wd'.length - Wd.length) (bSl Wd' - bSl Wd) (AB ρ Wd.length sz)
theorem PcB_blind {cs ρ : Nat → Nat} {dC : Nat → ClassId} {dI : Nat → Nat → Nat} {as : List xV} {Wd : bW} {sz : Nat} : FrameBlind (PcB cs ρ dC dI as Wd sz) := by
  intro a U g mk h
  obtain ⟨h0, h1, h2, h3, h4, h5, h6⟩ := h
  exact ⟨h0, h1, h2, h3, va_K.moved (u := U) (U := U.calling g mk a) (Vm.Alike.refl U.vm) h4, NWs.same (s := U) rfl h5, va_AO.moved (u := U) (U := U.calling g mk a) (Vm.Alike.refl U.vm) h6⟩
theorem iMax_all : (List.range 13).all (fun ci => Nat.ble (mMax (iMid ci)) 17) = true := by decide +kernel
theorem iMax {ci : Nat} (h : ci < 13) : mMax (iMid ci) ≤ 17 := Nat.le_of_ble_eq_true (List.all_eq_true.mp iMax_all ci (List.mem_range.mpr h))
theorem emb_ag {n : Nat} {ρ ρ' : Nat → Nat} (h : bAg n ρ ρ') {v : xV} (hv : bRefOk n v = true) : emb ρ' v = emb ρ v := by
  rcases v with x | x | _ | a
  · rfl
  · rfl
  · rfl
  · show Value.ref (ρ' a) = Value.ref (ρ a)
    unfold bRefOk at hv
    simp only [Bool.or_eq_true] at hv
    rw [h a (hv.elim (fun z => Or.inl (Nat.le_of_ble_eq_true z)) (fun z => Or.inr (Nat.le_of_ble_eq_true z)))]
theorem st_ag {n : Nat} {ρ ρ' : Nat → Nat} (ha : bAg n ρ ρ') {ls : xL} {st : List xV} (h : bFrOk n ls st = true) : st.map (emb ρ') = st.map (emb ρ) := by
  unfold bFrOk at h
  simp only [Bool.and_eq_true] at h
  exact List.map_congr_left (fun v hv => emb_ag ha (List.all_eq_true.mp h.2 v hv))
theorem lvL_ag {n : Nat} {ρ ρ' : Nat → Nat} (ha : bAg n ρ ρ') {ls : xL} {st : List xV} (h : bFrOk n ls st = true) : lvL ρ' ls = lvL ρ ls := by
  unfold bFrOk at h
  simp only [Bool.and_eq_true] at h
  unfold lvL
  congr 1
  funext i
  unfold lvE
  split
  · rename_i v hv
    have h1 := List.all_eq_true.mp h.1 _ (List.mem_of_getElem? hv)
    rw [emb_ag ha h1]
  · rfl
theorem va_D.re {A B : Nat → Prop} {ws : va_W} (h : va_D A ws) (hB : ∀ (k : Nat) (q : Nat × va_E), ws[k]? = some q → B q.1) : va_D B ws := ⟨h.1, hB⟩
section BRUN
variable {p : Program} {l : Launch} {e : Env} {R : Room} {s : State} {m : MethodId} {args : Array Value} {below : List Frame} {meth : Method} {c : Code} {Q : State → Prop} {cc : ByteArray}
variable {cs ρ0 : Nat → Nat} {dC : Nat → ClassId} {dI : Nat → Nat → Nat} {A : Nat → Prop} {nL own n0 m0 : Nat}
set_option maxHeartbeats 2000000 in
theorem bcall_ok {d : Nat} (F : FrB p R s m args meth c cc cs dC dI A s.heap nL own) (hRfr : d + 9 ≤ R.frames) (hRlo : 36 * d + 236 ≤ R.locals) {pc : Nat} {ls : xL} {st st' : List xV} {Wd Wd' : bW} {i : Instr} {len ci : Nat} {as : List xV} (hdg : decode cc pc = .ok (i, len)) (hok : bOkI own pc len i = true)
    (hcl : bCall own st i = some (ci, as, st')) (hfr : bFrOk Wd.length ls st' = true) (hsm : (st'.map xcat).sum ≤ 8) (hhd : bHd Wd.length as = true) (hM : MetB l cs dC dI d ci as Wd Wd') (hmono : Wd.length ≤ Wd'.length ∧ bSl Wd ≤ bSl Wd') (hlim : Wd'.length ≤ n0 + R.cells ∧ bSl Wd' ≤ m0 + R.slots)
    (kk : WB p l e R s m args below meth c Q cs ρ0 dC dI A s.heap nL n0 m0 (pc + 3, ls, st', Wd')) : WB p l e R s m args below meth c Q cs ρ0 dC dI A s.heap nL n0 m0 (pc, ls, st, Wd) := by
  obtain ⟨hx, hb, hml, hown, hts, hnw, hK, hAO, hinit, hAn, hRf, hRl⟩ := F
  intro ρ H locs real cells slots hag hP hD hS hl hn hce hsl
  change ls.length = nL at hn
  change va_P (dC, dI) vwCl (bwd cs ρ Wd) H at hP
  change va_D A (bwd cs ρ Wd) at hD
  change lv_has real nL (lvL ρ ls) at hl
  change cells + n0 = Wd.length at hce
  change slots + m0 = bSl Wd at hsl
  show W p l e R s m args below meth c H locs cells slots Q (F0 m pc real (st.map (emb ρ)))
  have hAw : ∀ a, a < Wd.length → A (ρ a) := by
    intro a ha
    obtain ⟨cz, hcz⟩ : ∃ cz, Wd[a]? = some cz := ⟨Wd[a], List.getElem?_eq_getElem ha⟩
    have h1 := hD.2 a (ρ a, bE cs ρ cz) (by rw [bwd_at, hcz]; rfl)
    exact h1
  have hsub_ : ∀ q, AB ρ Wd.length H.size q → A q := fun q hq => hq.elim (fun ⟨a, ha, hqa⟩ => hqa ▸ hAw a ha) (fun z => hAn q (Nat.le_trans hS.1 z))
  have hDB_ : va_D (AB ρ Wd.length H.size) (bwd cs ρ Wd) := by
    refine hD.re (fun k q hq => ?_)
    rw [bwd_at] at hq
    have hk : k < Wd.length := by
      rcases Nat.lt_or_ge k Wd.length with z | z
      · exact z
      · rw [List.getElem?_eq_none z] at hq
        cases hq
    rw [List.getElem?_eq_getElem hk] at hq
    cases hq
    exact Or.inl ⟨k, hk, rfl⟩
  have hpre_ : ∀ U : State, U.heap = H → s.WarmedH U.vm → PcB cs ρ dC dI as Wd H.size (as.map (emb ρ)).toArray U := fun U hU hW => ⟨rfl, by rw [hU], by rw [hU]; exact hP, hDB_, va_K.moved hW.alike hK, hnw.warm hW, va_AO.moved hW.alike hAO⟩
  have hbehind_ : ∀ (v : Option Value) (st0 t : State) (H1 : Heap) (locs1 : List Loc), st0.heap = H → t.heap = H1 → s.vm.Alike t.vm → QcB cs ρ dC dI Wd Wd' H.size (as.map (emb ρ)).toArray st0 (.returned v) t → (∀ l ∈ locs1, A l.base) → W p l e R s m args below meth c H1 locs1 (cells + (Wd'.length - Wd.length)) (slots + (bSl Wd' - bSl Wd)) Q (F0 m (pc + 3) real (v.toList ++ st'.map (emb ρ))) := by
    intro v st0 t H1 locs1 hst0_ ht_ hal_ hq_ hlo_
    obtain ⟨hv_, ⟨ρ', hag2_, hP1_, hD1_⟩, hF_⟩ := hq_
    cases hv_
    have hS1_ : va_S A s.heap H1 locs1 := by
      refine ⟨Nat.le_trans hS.1 (by rw [← ht_, ← hst0_]; exact hF_.1), fun q h1 h2 => ?_, hlo_⟩
      have h3 := hF_.2 q (by rw [hst0_]; exact Nat.lt_of_lt_of_le h1 hS.1) (fun z => h2 (hsub_ q z))
      rw [← ht_, h3, hst0_]
      exact hS.2.1 q h1 h2
    rw [ht_] at hP1_
    have hz_ := kk ρ' H1 locs1 real (cells + (Wd'.length - Wd.length)) (slots + (bSl Wd' - bSl Wd)) (fun k hk => by
      rw [hag2_ k (hk.elim (fun z => Or.inl (by omega)) Or.inr)]
      exact hag k hk) hP1_ (hD1_.re (fun k q hq => hsub_ _ (hD1_.2 k q hq))) hS1_ (by rw [show ((pc + 3, ls, st', Wd') : bS).2.1 = ls from rfl, lvL_ag hag2_ hfr]; exact hl) hn (by show cells + (Wd'.length - Wd.length) + n0 = Wd'.length; omega) (by show slots + (bSl Wd' - bSl Wd) + m0 = bSl Wd'; omega)
    rw [show ((pc + 3, ls, st', Wd') : bS).2.2.1 = st' from rfl, st_ag hag2_ hfr] at hz_
    exact hz_
  cases i <;> try (simp only [bCall, reduceCtorEq] at hcl; done)
  case invokespecial ix =>
    have hlen := Nat.eq_of_beq_eq_true hok
    subst hlen
    dsimp only [bCall] at hcl
    split at hcl
    case h_2 => exact nomatch hcl
    case h_1 ci2 nestp hin_ =>
      obtain ⟨nest, pw⟩ := nestp
      split at hcl
      case h_2 => exact nomatch hcl
      case h_1 as3 st3 hpo_ =>
        cases hcl
        obtain ⟨hlk_, hins_, hini_, hci_, hcls_, hnm_, hpn_⟩ := bIni_ok hin_
        obtain ⟨hp1_, hp2_⟩ := xpop_of _ _ _ _ _ hpo_
        unfold bHd at hhd
        split at hhd
        case h_2 => exact nomatch hhd
        case h_1 b as2 =>
        have hst_ : st.map (emb ρ) = (as2.map (emb ρ)).reverse ++ .ref (ρ b) :: st'.map (emb ρ) := by
          have hz_ : st.map (emb ρ) = ((vR b :: as2).map (emb ρ)).reverse ++ st'.map (emb ρ) := by
            rw [← List.map_reverse, ← List.map_append, hp1_]
            rfl
          rw [hz_]
          simp [emb]
        have hsm_ : ((st'.map (emb ρ)).map fun v => v.category).sum ≤ 8 := by rw [emb_sum]; exact hsm
        have hlen2_ : (as2.map (emb ρ)).length = iArg ci := by
          rw [List.length_map]
          simp only [List.length_cons, List.length_nil] at hp2_
          omega
        have hcw_ := iCode_ok hci_
        have hG_ : GoodIn GW (Cond.code (mY (iMid ci)) (mBytes (iMid ci)) (mMax (iMid ci)) none :: GW) := fun w hw => (List.mem_cons.mp hw).elim (fun z => by rw [z]; exact ⟨hcw_, Or.inl rfl⟩) (fun z => ⟨z, good_of_word (GW_good z)⟩)
        have hdd_ : (mY (iMid ci)).cls ≠ "java/lang/invoke/MethodHandle" ∧ (mY (iMid ci)).cls ≠ "java/lang/invoke/VarHandle" ∧ (parseMethodDescriptor (mY (iMid ci)).desc).map (fun d => d.parameters.length) = some (iArg ci) := by
          rw [hcls_]
          exact ⟨(own_cls _ (by omega)).1, (own_cls _ (by omega)).2, hpn_⟩
        have hmx_ := iMax hci_
        have hR_ : ({ rmD d with cells := Wd'.length - Wd.length, slots := bSl Wd' - bSl Wd } : Room).frames + 1 ≤ R.frames ∧ 8 + (mMax (iMid ci) + 11) + ({ rmD d with cells := Wd'.length - Wd.length, slots := bSl Wd' - bSl Wd } : Room).locals ≤ R.locals := ⟨hRfr, by show 8 + (mMax (iMid ci) + 11) + (36 * d + 200) ≤ R.locals; omega⟩
        have hini2_ : (Cond.initialized (mY (iMid ci)).cls).before args s = true := by rw [hcls_]; exact hts _ hini_
        rw [hst_]
        cases hnb_ : Nat.beq nest 0 with
        | true =>
          unfold iw at hlk_
          rw [hnb_] at hlk_
          exact x_call (va_runI (Ts := GW) (own := cnm own) (nL := nL) (b := ρ b) (As := as2.map (emb ρ)) (rest := st'.map (emb ρ)) ⟨hx, hb, hml, hown, hts⟩ (hM ρ H.size) ⟨callB_of (iArg ci) hts hG_ rfl rfl rfl hini2_ (hts _ (GW_of hlk_ rfl)) hdd_ hR_, hnm_, hts _ hins_⟩ ⟨PcB_blind, hpre_⟩ rfl hlen2_ hl.1 rfl (lv_room hsm_) hdg ⟨by omega, by omega⟩) hS hsub_ (fun v st0 t H1 locs1 g1 g2 g3 g4 g5 => hbehind_ v st0 t H1 locs1 g1 g2 g3 g4 g5)
        | false =>
          unfold iw at hlk_
          rw [hnb_] at hlk_
          exact x_call (va_runIN (Ts := GW) (own := cnm own) (nL := nL) (b := ρ b) (As := as2.map (emb ρ)) (rest := st'.map (emb ρ)) ⟨hx, hb, hml, hown, hts⟩ (hM ρ H.size) ⟨va_cnB (iArg ci) hts hG_ rfl rfl rfl (hnw _ hlk_ rfl) hini2_ hdd_ hR_, hnm_, hts _ hins_⟩ ⟨PcB_blind, hpre_⟩ rfl hlen2_ hl.1 rfl (lv_room hsm_) hdg ⟨by omega, by omega⟩) hS hsub_ (fun v st0 t H1 locs1 g1 g2 g3 g4 g5 => hbehind_ v st0 t H1 locs1 g1 g2 g3 g4 g5)
theorem bIni_ci {own : Nat} {st : List xV} {i : Instr} {ci : Nat} {as st' : List xV} (h : bCall own st i = some (ci, as, st')) : ci < 13 := by
  cases i <;> try (simp only [bCall, reduceCtorEq] at h; done)
  case invokespecial ix =>
    dsimp only [bCall] at h
    split at h
    case h_2 => exact nomatch h
    case h_1 ci2 nestp hin_ =>
      split at h
      case h_2 => exact nomatch h
      case h_1 => cases h; exact (bIni_ok (nest := nestp.1) (p := nestp.2) hin_).2.2.2.1
theorem brun_ok {d : Nat} {call : Nat → List xV → bW → Option bW} {cd : Nat → Option (Instr × Nat)} {stop : Nat} (F : FrB p R s m args meth c cc cs dC dI A s.heap nL own) (hRfr : d + 9 ≤ R.frames) (hRlo : 36 * d + 236 ≤ R.locals) (hcd : ∀ pc i len, cd pc = some (i, len) → decode cc pc = .ok (i, len) ∧ bOkI own pc len i = true)
    (hmn : ∀ ci as Wd Wd', call ci as Wd = some Wd' → Wd.length ≤ Wd'.length ∧ bSl Wd ≤ bSl Wd') (hcall : ∀ ci as Wd Wd', call ci as Wd = some Wd' → ci < 13 → MetB l cs dC dI d ci as Wd Wd')
    : ∀ (n : Nat) (q q' : bS), runC call own cd stop n q = some q' → q'.2.2.2.length ≤ n0 + R.cells ∧ bSl q'.2.2.2 ≤ m0 + R.slots → (q'.1 = stop → WB p l e R s m args below meth c Q cs ρ0 dC dI A s.heap nL n0 m0 q') → WB p l e R s m args below meth c Q cs ρ0 dC dI A s.heap nL n0 m0 q := by
  intro n
  induction n with
  | zero => exact fun q q' h => nomatch h
  | succ n ih =>
    intro q q' h hlim hfin
    obtain ⟨pc, ls, st, Wd⟩ := q
    unfold runC at h
    simp only [Bool.cond_eq_ite] at h
    split at h
    case isTrue hs_ =>
      cases h
      exact hfin (Nat.eq_of_beq_eq_true hs_)
    case isFalse hs_ =>
      split at h
      case h_1 => exact nomatch h
      case h_2 i len hi_ =>
        obtain ⟨hdg_, hok_⟩ := hcd pc i len hi_
        split at h
        case isFalse => exact nomatch h
        case isTrue hck_ =>
          split at h
          case h_1 ci as st' hcl_ =>
            split at h
            case isFalse => exact nomatch h
            case isTrue hg_ =>
              simp only [Bool.and_eq_true] at hg_
              split at h
              case h_2 => exact nomatch h
              case h_1 Wd' hca_ =>
                have h2 := runC_mono hmn _ _ _ h
                exact bcall_ok F hRfr hRlo hdg_ hok_ hcl_ hg_.1.1.1.1 (Nat.le_of_ble_eq_true hg_.1.1.2) hg_.2 (hcall _ _ _ _ hca_ (bIni_ci hcl_)) (hmn _ _ _ _ hca_) ⟨Nat.le_trans h2.1 hlim.1, Nat.le_trans h2.2 hlim.2⟩ (ih _ _ h hlim hfin)
          case h_2 =>
            split at h
            case h_2 => exact nomatch h
            case h_1 q2 hs2_ =>
              have h2 := runC_mono hmn _ _ _ h
              exact bstep_ok F hdg_ hok_ hck_ hs2_ ⟨Nat.le_trans h2.1 hlim.1, Nat.le_trans h2.2 hlim.2⟩ (ih _ _ h hlim hfin)
end BRUN
set_option maxHeartbeats 1000000 in
theorem metB_ok {l : Launch} {cs : Nat → Nat} {dC : Nat → ClassId} {dI : Nat → Nat → Nat} : ∀ (d ci : Nat) (as : List xV) (Wd Wd' : bW), callC d ci as Wd = some Wd' → ci < 13 → MetB l cs dC dI d ci as Wd Wd' := by
  intro d
  induction d with
  | zero => exact fun ci as Wd Wd' h => nomatch h
  | succ d ih =>
    intro ci as Wd Wd' h hci ρ sz
    have hmono := callC_mono _ _ _ _ _ h
    obtain ⟨hle_, pc2, ls2, hrun⟩ := callC_run h
    have hcls_ : (mY (iMid ci)).cls = cnm ci ∧ plainName (mY (iMid ci)).cls = true ∧ (mY (iMid ci)).name = "<init>" := by
      have hz : (List.range 13).all (fun ci => decide ((mY (iMid ci)).cls = cnm ci) && plainName (mY (iMid ci)).cls && decide ((mY (iMid ci)).name = "<init>")) = true := by decide +kernel
      have h1 := List.all_eq_true.mp hz ci (List.mem_range.mpr hci)
      simp only [Bool.and_eq_true, decide_eq_true_eq] at h1
      exact ⟨h1.1.1, h1.1.2, h1.2⟩
    refine Met.ofW (cc := mBytes (iMid ci)) (maxL := mMax (iMid ci)) (ret := none) hcls_.2.1 rfl ?_
    intro p e s mm args below meth c s₁ B hml hv
    obtain ⟨rfl, hsz, hP, hD, hK, hN, hAO⟩ := hv
    subst hsz
    have hts0 := atoms_spec (ws := Cond.code (mY (iMid ci)) (mBytes (iMid ci)) (mMax (iMid ci)) none :: GW) B.pre
    have hts : ∀ w ∈ GW, w.before (as.map (emb ρ)).toArray s = true := fun w hw => hts0 w (List.mem_cons_of_mem _ hw)
    have hown : s.vm.findClass (cnm ci) = some mm.cls := by
      rw [← hcls_.1]
      exact findClass_of_methodNamed B.named
    have hlocks := B.notSynchronized
    have hr := B.returns
    have hnm : meth.name = "<init>" := (name_of_methodNamed B.named B.method).1.trans hcls_.2.2
    have F : FrB p (headSpec (Cond.code (mY (iMid ci)) (mBytes (iMid ci)) (mMax (iMid ci)) none :: GW) { rmD (d + 1) with cells := Wd'.length - Wd.length, slots := bSl Wd' - bSl Wd }).room s mm (as.map (emb ρ)).toArray meth c (mBytes (iMid ci)) cs dC dI (AB ρ Wd.length s.heap.size) s.heap (mMax (iMid ci)) ci :=
      ⟨B.exec, B.bytes, hml, hown, hts, hN, hK, hAO, fun _ => hnm, fun q hq => Or.inr hq, by show 8 ≤ d + 1 + 8; omega, by show 60 ≤ 36 * (d + 1) + 200; omega⟩
    have hfin : pc2 = bEnd ci → WB p l e (headSpec (Cond.code (mY (iMid ci)) (mBytes (iMid ci)) (mMax (iMid ci)) none :: GW) { rmD (d + 1) with cells := Wd'.length - Wd.length, slots := bSl Wd' - bSl Wd }).room s mm (as.map (emb ρ)).toArray below meth c (MQ below (QcB cs ρ dC dI Wd Wd' s.heap.size) (as.map (emb ρ)).toArray s (Wd'.length - Wd.length) (bSl Wd' - bSl Wd) (AB ρ Wd.length s.heap.size)) cs ρ dC dI (AB ρ Wd.length s.heap.size) s.heap (mMax (iMid ci)) Wd.length (bSl Wd) (pc2, ls2, [], Wd') := by
      intro hpc ρ' H locs real cells slots hag hP2 hD2 hS2 hl2 hn2 hce hsl
      subst hpc
      change cells + Wd.length = Wd'.length at hce
      change slots + bSl Wd = bSl Wd' at hsl
      obtain rfl : cells = Wd'.length - Wd.length := by omega
      obtain rfl : slots = bSl Wd' - bSl Wd := by omega
      refine W.vret B.exec B.bytes (by rw [hr]) (fun t ht hW => ⟨rfl, ⟨ρ', hag, by rw [ht]; exact hP2, hD2⟩, hS2.F ht⟩) hS2.2.2 ?_
      exact (cdC_ok hci _ _ _ (bEnd_ok hci))
    have hbody := brun_ok (l := l) (e := e) (below := below) (nL := mMax (iMid ci)) (n0 := Wd.length) (m0 := bSl Wd) (ρ0 := ρ) F (by show d + 9 ≤ d + 1 + 8; omega) (by show 36 * d + 236 ≤ 36 * (d + 1) + 200; omega) (fun pc i len hi => ⟨cdC_ok hci pc i len hi, bCk_ok hci pc i len hi⟩) (callC_mono d) ih 2000 _ _ hrun ⟨by show Wd'.length ≤ Wd.length + (Wd'.length - Wd.length); omega, by show bSl Wd' ≤ bSl Wd + (bSl Wd' - bSl Wd); omega⟩ hfin
    rw [lg_entry_eq]
    have hl := lv_entry (as.map (emb ρ)) (n := mMax (iMid ci)) (by rw [eL_len]; exact hle_)
    exact hbody ρ s.heap [] _ 0 0 (fun k _ => rfl) hP hD va_S.rf (lv_more hl lvL_of) (eP_len _ _ hle_) (by show 0 + Wd.length = Wd.length; omega) (by show 0 + bSl Wd = bSl Wd; omega)
