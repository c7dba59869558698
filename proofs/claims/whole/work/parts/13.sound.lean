/-! THE READER IS SOUND: where it comes to an end, the machine does -/
section BODY
variable {p : Program} {l : Launch} {e : Env} {R : Room} {s : State} {m : MethodId} {args : Array Value} {below : List Frame} {meth : Method} {c : Code} {cells slots : Nat} {Q : State → Prop} {cc : ByteArray}
variable {cs ρ adV : Nat → Nat} {dC : Nat → ClassId} {dI : Nat → Nat → Nat} {A : Nat → Prop} {nL own : Nat} {sc : xSc}
/-- a method's contract at depth d: returned -/
def MetG (l : Launch) (cs ρ adV : Nat → Nat) (dC : Nat → ClassId) (dI : Nat → Nat → Nat) (d m : Nat) (as : List xV) (σ : xSt) (r : Option xV) (σ' : xSt) (mc ms : Nat) : Prop :=
  ∀ sz, Met l (mY m) (Cond.code (mY m) (mBytes m) (mMax m) (mRet m) :: GW) { rmD d with cells := mc, slots := ms } (PcG cs ρ adV dC dI as σ sz) (QcG cs ρ dC dI r σ' (AW ρ sz)) mc ms (AW ρ sz)
theorem mOwn_all : mP.all (fun q => Nat.blt (mOwn q.1) 13) = true := by decide +kernel
theorem mOwn_lt {q : Nat × (Nat × Nat × Nat × Nat)} (hq : q ∈ mP) : mOwn q.1 < 13 := Nat.le_of_ble_eq_true (List.all_eq_true.mp mOwn_all q hq)
theorem own_cls : ∀ own, own < 14 → cnm own ≠ "java/lang/invoke/MethodHandle" ∧ cnm own ≠ "java/lang/invoke/VarHandle" := by decide +kernel
theorem isL_v {r : Option xV} {v : xV} (h : ∀ w, r = some w → okV w) : ∀ w ∈ r.toList, okV w := by
  intro w hw
  cases r with
  | none => cases hw
  | some x =>
    have hx_ : w = x := by simpa using hw
    rw [hx_]
    exact h x rfl
set_option maxHeartbeats 1000000 in
/-- a call within a body -/
theorem call_ok {d mc ms : Nat} (F : FrOk p R s m args c cells slots cc cs ρ dC dI A nL own) (hE : StrEnv ρ adV A s) (hAn : ∀ q, s.heap.size ≤ q → A q) (hRfr : d + 9 ≤ R.frames) (hRlo : 36 * d + 236 ≤ R.locals) (hRc2 : cells + mc ≤ R.cells) (hRs2 : slots + ms ≤ R.slots)
    {pc : Nat} {ls : xL} {st st' : List xV} {σ σ' : xSt} {i : Instr} {len m2 : Nat} {as : List xV} {r : Option xV} (hdg : decode cc pc = .ok (i, len)) (hok : okI own pc len i = true) (hcl : xcallI own st i = some (m2, as, st'))
    (hin : ∀ ix n v, mth own ix = some (m2, n, v) → ∃ q ∈ mP, q.1 = m2 ∧ (v = 0 ↔ q.2.2.2.2 = 0))
    (hM : MetG l cs ρ adV dC dI d m2 as σ r σ' mc ms)
    (kk : WS p l e R s m args below meth c (cells + mc) (slots + ms) Q cs ρ dC dI A s.heap nL (pc + 3, ls, r.toList ++ st', σ')) : WS p l e R s m args below meth c cells slots Q cs ρ dC dI A s.heap nL (pc, ls, st, σ) := by
  obtain ⟨hx, hb, hml, hown, hts, hnw, hK, hinj, hAr, hks, hRf, hRl, hRc, hRs⟩ := F
  intro H locs real hR
  obtain ⟨hP, hS, hσ, hl, hn, hol, hos⟩ := hR
  change ls.length = nL at hn
  change InR σ at hσ
  change va_P (dC, dI) vwCl (wd cs ρ σ) H at hP
  change lv_has real nL (lvL ρ ls) at hl
  change ∀ w, some w ∈ ls → okV w at hol
  change ∀ w ∈ st, okV w at hos
  show W p l e R s m args below meth c H locs cells slots Q (F0 m pc real (st.map (emb ρ)))
  have hsub_ : ∀ q, AW ρ H.size q → A q := fun q hq => hq.elim (fun ⟨a, ha, hqa⟩ => hqa ▸ hAr a ha) (fun z => hAn q (Nat.le_trans hS.1 z))
  -- behind the call
  have hbehind_ : ∀ (v : Option Value) (st0 t : State) (H1 : Heap) (locs1 : List Loc), st0.heap = H → t.heap = H1 → s.vm.Alike t.vm → QcG cs ρ dC dI r σ' (AW ρ H.size) (as.map (emb ρ)).toArray st0 (.returned v) t → (∀ l ∈ locs1, A l.base) → (∀ w ∈ st', okV w) → W p l e R s m args below meth c H1 locs1 (cells + mc) (slots + ms) Q (F0 m (pc + 3) real (v.toList ++ st'.map (emb ρ))) := by
    intro v st0 t H1 locs1 hst0_ ht_ hal_ hq_ hlo_ hst2_
    obtain ⟨hv_, hP1_, hF_, hσ2, hr2⟩ := hq_
    cases hv_
    have hS1_ : va_S A s.heap H1 locs1 := by
      refine ⟨Nat.le_trans hS.1 (by rw [← ht_, ← hst0_]; exact hF_.1), fun q h1 h2 => ?_, hlo_⟩
      have h3 := hF_.2 q (by rw [hst0_]; exact Nat.lt_of_lt_of_le h1 hS.1) (fun z => h2 (hsub_ q z))
      rw [← ht_, h3, hst0_]
      exact hS.2.1 q h1 h2
    rw [ht_] at hP1_
    have hz_ := kk H1 locs1 real ⟨hP1_, hS1_, hσ2, hl, hn, hol, fun w hw => (List.mem_append.mp hw).elim (isL_v (v := w) hr2 w) (hst2_ w)⟩
    have hmap_ : (r.map (emb ρ)).toList ++ st'.map (emb ρ) = (r.toList ++ st').map (emb ρ) := by
      cases r <;> simp
    rw [hmap_]
    exact hz_
  have hpre_ : ∀ U : State, U.heap = H → s.WarmedH U.vm → PcG cs ρ adV dC dI as σ H.size (as.map (emb ρ)).toArray U := fun U hU hW => ⟨rfl, by rw [hU], by rw [hU]; exact hP, va_K.moved hW.alike hK, hnw.warm hW, hE.callee hW hU hS hsub_⟩
  have hrm_ : ({ rmD d with cells := mc, slots := ms } : Room).frames + 1 ≤ R.frames ∧ 8 + (mMax m2 + 11) + ({ rmD d with cells := mc, slots := ms } : Room).locals ≤ R.locals ∨ ¬ mMax m2 ≤ 17 := by
    rcases Nat.lt_or_ge 17 (mMax m2) with z | z
    · exact Or.inr (by omega)
    · exact Or.inl ⟨hRfr, by show 8 + (mMax m2 + 11) + (36 * d + 200) ≤ R.locals; omega⟩
  cases i <;> try (simp only [xcallI, reduceCtorEq] at hcl; done)
  case invokestatic ix =>
    have hlen := Nat.eq_of_beq_eq_true hok
    subst hlen
    dsimp only [xcallI] at hcl
    split at hcl
    case h_2 => exact nomatch hcl
    case h_1 m3 n3 hmt_ =>
      split at hcl
      case h_2 => exact nomatch hcl
      case h_1 as3 st3 hpo_ =>
        cases hbs_ : Nat.ble (st3.map xcat).sum 8 with
        | false =>
          rw [hbs_] at hcl
          cases hcl
        | true =>
          rw [hbs_] at hcl
          cases hcl
          obtain ⟨hq_, hqm_, hq1_, hq2_⟩ := hin ix n3 0 hmt_
          obtain ⟨f1_, f2_, f3_, f4_, f5_, f6_⟩ := mP_facts hqm_
          have hcw_ := cw_in _ hqm_
          unfold cwQ at hcw_
          rw [hq1_] at f1_ f2_ f3_ f4_ f5_ f6_ hcw_
          obtain ⟨hpn_, nest_, hlk_⟩ := mth_ok hmt_
          have hstc_ := f5_ (hq2_.mp rfl)
          obtain ⟨hp1_, hp2_⟩ := xpop_of _ _ _ _ _ hpo_
          have hst_ : st.map (emb ρ) = (as.map (emb ρ)).reverse ++ st'.map (emb ρ) := by
            rw [← List.map_reverse, ← List.map_append, hp1_]
            rfl
          have hsm_ : ((st'.map (emb ρ)).map fun v => v.category).sum ≤ 8 := by rw [emb_sum]; exact Nat.le_of_ble_eq_true hbs_
          have hlen_ : (as.map (emb ρ)).length = n3 := by rw [List.length_map, hp2_]; rfl
          have hG_ : GoodIn GW (Cond.code (mY m2) (mBytes m2) (mMax m2) (mRet m2) :: GW) := fun w hw => (List.mem_cons.mp hw).elim (fun z => by rw [z]; exact ⟨GW_of hcw_ rfl, Or.inl rfl⟩) (fun z => ⟨z, good_of_word (GW_good z)⟩)
          have hdd_ : (mY m2).cls ≠ "java/lang/invoke/MethodHandle" ∧ (mY m2).cls ≠ "java/lang/invoke/VarHandle" ∧ (parseMethodDescriptor (mY m2).desc).map (fun d => d.parameters.length) = some n3 := by
            rw [f2_]
            have ho_ : mOwn m2 < 14 := by have := mOwn_lt hqm_; rw [hq1_] at this; omega
            exact ⟨(own_cls _ ho_).1, (own_cls _ ho_).2, hpn_⟩
          have hR_ := hrm_.resolve_right (fun z => z f4_)
          have hsub2_ : ∀ w ∈ st', okV w := fun w hw => hos w (by
            have hz_ : w ∈ as.reverse ++ st' := List.mem_append_right _ hw
            rw [hp1_] at hz_
            exact hz_)
          rw [hst_]
          cases hnb_ : Nat.beq nest_ 0 with
          | true =>
            unfold mw at hlk_
            rw [hnb_] at hlk_
            exact x_call (va_runS (Ts := GW) (own := cnm own) (nL := nL) (As := as.map (emb ρ)) (rest := st'.map (emb ρ)) ⟨hx, hb, hml, hown, hts⟩ (hM H.size) ⟨callB_of n3 hts hG_ rfl rfl rfl (hts _ f1_) (hts _ (GW_of hlk_ rfl)) hdd_ hR_, hts _ hstc_⟩ ⟨PcG_blind, hpre_⟩ rfl hlen_ hl.1 rfl (lv_room hsm_) hdg ⟨hRc2, hRs2⟩) hS hsub_ (fun v st0 t H1 locs1 g1 g2 g3 g4 g5 => hbehind_ v st0 t H1 locs1 g1 g2 g3 g4 g5 hsub2_)
          | false =>
            unfold mw at hlk_
            rw [hnb_] at hlk_
            exact x_call (va_runSN (Ts := GW) (own := cnm own) (nL := nL) (As := as.map (emb ρ)) (rest := st'.map (emb ρ)) ⟨hx, hb, hml, hown, hts⟩ (hM H.size) ⟨va_cnB n3 hts hG_ rfl rfl rfl (hnw _ hlk_ rfl) (hts _ f1_) hdd_ hR_, hts _ hstc_, trivial⟩ ⟨PcG_blind, hpre_⟩ rfl hlen_ hl.1 rfl (lv_room hsm_) hdg ⟨hRc2, hRs2⟩) hS hsub_ (fun v st0 t H1 locs1 g1 g2 g3 g4 g5 => hbehind_ v st0 t H1 locs1 g1 g2 g3 g4 g5 hsub2_)
  case invokevirtual ix =>
    have hlen := Nat.eq_of_beq_eq_true hok
    subst hlen
    dsimp only [xcallI] at hcl
    split at hcl
    case h_2 => exact nomatch hcl
    case h_1 m3 n3 hmt_ =>
      split at hcl
      case h_2 => exact nomatch hcl
      case h_1 as3 st3 hpo_ =>
        cases hbs_ : (recvOk m3 as3 && Nat.ble (st3.map xcat).sum 8) with
        | false =>
          rw [hbs_] at hcl
          cases hcl
        | true =>
          rw [hbs_] at hcl
          cases hcl
          obtain ⟨hrv_, hbs_⟩ := Bool.and_eq_true_iff.mp hbs_
          obtain ⟨hq_, hqm_, hq1_, hq2_⟩ := hin ix n3 1 hmt_
          obtain ⟨f1_, f2_, f3_, f4_, f5_, f6_⟩ := mP_facts hqm_
          have hcw_ := cw_in _ hqm_
          unfold cwQ at hcw_
          rw [hq1_] at f1_ f2_ f3_ f4_ f5_ f6_ hcw_
          obtain ⟨hpn_, nest_, hlk_⟩ := mth_ok hmt_
          obtain ⟨hins_, hsel_⟩ := f6_ (fun z => nomatch hq2_.mpr z)
          obtain ⟨hp1_, hp2_⟩ := xpop_of _ _ _ _ _ hpo_
          have hst_ : st.map (emb ρ) = (as.map (emb ρ)).reverse ++ st'.map (emb ρ) := by
            rw [← List.map_reverse, ← List.map_append, hp1_]
            rfl
          have hsm_ : ((st'.map (emb ρ)).map fun v => v.category).sum ≤ 8 := by rw [emb_sum]; exact Nat.le_of_ble_eq_true hbs_
          have hlen_ : as.length = n3 + 1 := hp2_
          unfold recvOk at hrv_
          split at hrv_
          case h_2 => exact nomatch hrv_
          case h_1 a as2 =>
          have hlen2_ : (as2.map (emb ρ)).length = n3 := by
            rw [List.length_map]
            simp only [List.length_cons] at hlen_
            omega
          have hla_ : (lay a).1 = mOwn m2 := Nat.eq_of_beq_eq_true hrv_
          have hol_ : mOwn m2 < 13 := by have := mOwn_lt hqm_; rw [hq1_] at this; exact this
          have hxa_ : a < xNA := lay_lt (by omega)
          have hcell_ := wd_at cs ρ σ hxa_
          rw [cellE_obj cs ρ σ (by omega)] at hcell_
          have hrcv_ : ∃ cellB : Cell, H[ρ a]? = some cellB ∧ cellB.vm.isStatics = false ∧ s.vm.findClass (mY m2).cls = some cellB.cls := by
            rw [f2_, ← hla_]
            exact va_recv hK hP (cl_at _ (by omega)) hcell_
          have hst_ : st.map (emb ρ) = (as2.map (emb ρ)).reverse ++ .ref (ρ a) :: st'.map (emb ρ) := by
            rw [hst_]
            simp [emb]
          have hG_ : GoodIn GW (Cond.code (mY m2) (mBytes m2) (mMax m2) (mRet m2) :: GW) := fun w hw => (List.mem_cons.mp hw).elim (fun z => by rw [z]; exact ⟨GW_of hcw_ rfl, Or.inl rfl⟩) (fun z => ⟨z, good_of_word (GW_good z)⟩)
          have hdd_ : (mY m2).cls ≠ "java/lang/invoke/MethodHandle" ∧ (mY m2).cls ≠ "java/lang/invoke/VarHandle" ∧ (parseMethodDescriptor (mY m2).desc).map (fun d => d.parameters.length) = some n3 := by
            rw [f2_]
            have ho_ : mOwn m2 < 14 := by have := mOwn_lt hqm_; rw [hq1_] at this; omega
            exact ⟨(own_cls _ ho_).1, (own_cls _ ho_).2, hpn_⟩
          have hR_ := hrm_.resolve_right (fun z => z f4_)
          have hsub2_ : ∀ w ∈ st', okV w := fun w hw => hos w (by
            have hz_ : w ∈ (vR a :: as2).reverse ++ st' := List.mem_append_right _ hw
            rw [hp1_] at hz_
            exact hz_)
          rw [hst_]
          cases hnb_ : Nat.beq nest_ 0 with
          | true =>
            unfold mw at hlk_
            rw [hnb_] at hlk_
            exact x_call (va_runV (Ts := GW) (own := cnm own) (nL := nL) (b := ρ a) (C := (mY m2).cls) (As := as2.map (emb ρ)) (rest := st'.map (emb ρ)) ⟨hx, hb, hml, hown, hts⟩ (hM H.size) ⟨callB_of n3 hts hG_ rfl rfl rfl (hts _ f1_) (hts _ (GW_of hlk_ rfl)) hdd_ hR_, hts _ hins_, hts _ hsel_⟩ ⟨PcG_blind, hrcv_, hpre_⟩ rfl hlen2_ hl.1 rfl (lv_room hsm_) hdg ⟨hRc2, hRs2⟩) hS hsub_ (fun v st0 t H1 locs1 g1 g2 g3 g4 g5 => hbehind_ v st0 t H1 locs1 g1 g2 g3 g4 g5 hsub2_)
          | false =>
            unfold mw at hlk_
            rw [hnb_] at hlk_
            exact x_call (va_runVN (Ts := GW) (own := cnm own) (nL := nL) (b := ρ a) (C := (mY m2).cls) (As := as2.map (emb ρ)) (rest := st'.map (emb ρ)) ⟨hx, hb, hml, hown, hts⟩ (hM H.size) ⟨va_cnB n3 hts hG_ rfl rfl rfl (hnw _ hlk_ rfl) (hts _ f1_) hdd_ hR_, hts _ hins_, hts _ hsel_⟩ ⟨PcG_blind, hrcv_, hpre_⟩ rfl hlen2_ hl.1 rfl (lv_room hsm_) hdg ⟨hRc2, hRs2⟩) hS hsub_ (fun v st0 t H1 locs1 g1 g2 g3 g4 g5 => hbehind_ v st0 t H1 locs1 g1 g2 g3 g4 g5 hsub2_)
/-- a body: from any place from which the reader comes to its end -/
theorem body_ok {d rk : Nat} {call : xCall} {cd : Nat → Option (Instr × Nat)} (ho : own < 13) (F : FrOk p R s m args c cells slots cc cs ρ dC dI A nL own) (hE : StrEnv ρ adV A s) (hAn : ∀ q, s.heap.size ≤ q → A q) (hRfr : d + 9 ≤ R.frames) (hRlo : 36 * d + 236 ≤ R.locals)
    (hsc : ScOk sc ρ A s s.heap) (hstr : StrOk p l e R s m args below meth c cells slots Q cc ρ A s.heap nL own) (hcd : CdOk own cc cd)
    (hcall : ∀ m2 as σ r σ', call m2 as σ = some (some r, σ') → (∃ q ∈ mP, q.1 = m2) → InR σ → (∀ v ∈ as, okV v) → MetG l cs ρ adV dC dI d m2 as σ r σ' 0 0)
    {r : Option xV} {σ' : xSt} (hfin : ∀ pc i len ls st, cd pc = some (i, len) → xretI own rk st i = some (some r) → WS p l e R s m args below meth c cells slots Q cs ρ dC dI A s.heap nL (pc, ls, st, σ')) :
    ∀ (n : Nat) (q : xS), runI sc call own rk cd n q = some (some r, σ') → WS p l e R s m args below meth c cells slots Q cs ρ dC dI A s.heap nL q := by
  intro n
  induction n with
  | zero => exact fun q h => nomatch h
  | succ n ih =>
    intro q h
    obtain ⟨pc, ls, st, σ⟩ := q
    unfold runI at h
    split at h
    case h_1 => exact nomatch h
    case h_2 i len hi_ =>
      obtain ⟨hdg, hok⟩ := hcd pc i len hi_
      split at h
      case h_1 r2 hr_ =>
        cases h
        exact hfin pc i len ls st hi_ hr_
      case h_2 hr_ =>
        split at h
        case h_1 m2 as st' hcl_ =>
          split at h
          case h_2 => exact nomatch h
          case h_1 v σ2 hca_ =>
            have hk_ := ih _ h
            intro H locs real hR
            have hin_ : ∀ ix n v, mth own ix = some (m2, n, v) → ∃ q ∈ mP, q.1 = m2 ∧ (v = 0 ↔ q.2.2.2.2 = 0) := fun ix n v hq => mth_in ho hq
            have hex_ : ∃ q ∈ mP, q.1 = m2 := by
              cases i <;> try (simp only [xcallI, reduceCtorEq] at hcl_; done)
              case invokestatic ix =>
                dsimp only [xcallI] at hcl_
                split at hcl_
                case h_2 => exact nomatch hcl_
                case h_1 m3 n3 hmt_ =>
                  split at hcl_
                  case h_2 => exact nomatch hcl_
                  case h_1 as3 st3 hpo_ =>
                    cases hbs_ : Nat.ble (st3.map xcat).sum 8 with
                    | false =>
                      rw [hbs_] at hcl_
                      cases hcl_
                    | true =>
                      rw [hbs_] at hcl_
                      cases hcl_
                      obtain ⟨q, h1, h2, -⟩ := mth_in ho hmt_
                      exact ⟨q, h1, h2⟩
              case invokevirtual ix =>
                dsimp only [xcallI] at hcl_
                split at hcl_
                case h_2 => exact nomatch hcl_
                case h_1 m3 n3 hmt_ =>
                  split at hcl_
                  case h_2 => exact nomatch hcl_
                  case h_1 as3 st3 hpo_ =>
                    cases hbs_ : (recvOk m3 as3 && Nat.ble (st3.map xcat).sum 8) with
                    | false =>
                      rw [hbs_] at hcl_
                      cases hcl_
                    | true =>
                      rw [hbs_] at hcl_
                      cases hcl_
                      obtain ⟨q, h1, h2, -⟩ := mth_in ho hmt_
                      exact ⟨q, h1, h2⟩
            have has_ : ∀ v ∈ as, okV v := by
              have hos : ∀ w ∈ st, okV w := hR.2.2.2.2.2.2
              cases i <;> try (simp only [xcallI, reduceCtorEq] at hcl_; done)
              case invokestatic ix =>
                dsimp only [xcallI] at hcl_
                split at hcl_
                case h_2 => exact nomatch hcl_
                case h_1 m3 n3 hmt_ =>
                  split at hcl_
                  case h_2 => exact nomatch hcl_
                  case h_1 as3 st3 hpo_ =>
                    cases hbs_ : Nat.ble (st3.map xcat).sum 8 with
                    | false =>
                      rw [hbs_] at hcl_
                      cases hcl_
                    | true =>
                      rw [hbs_] at hcl_
                      cases hcl_
                      obtain ⟨h1, -⟩ := xpop_of _ _ _ _ _ hpo_
                      intro w hw
                      refine hos w ?_
                      have hz_ : w ∈ as.reverse ++ st' := List.mem_append_left _ (List.mem_reverse.mpr hw)
                      rw [h1] at hz_
                      exact hz_
              case invokevirtual ix =>
                dsimp only [xcallI] at hcl_
                split at hcl_
                case h_2 => exact nomatch hcl_
                case h_1 m3 n3 hmt_ =>
                  split at hcl_
                  case h_2 => exact nomatch hcl_
                  case h_1 as3 st3 hpo_ =>
                    cases hbs_ : (recvOk m3 as3 && Nat.ble (st3.map xcat).sum 8) with
                    | false =>
                      rw [hbs_] at hcl_
                      cases hcl_
                    | true =>
                      rw [hbs_] at hcl_
                      cases hcl_
                      obtain ⟨h1, -⟩ := xpop_of _ _ _ _ _ hpo_
                      intro w hw
                      refine hos w ?_
                      have hz_ : w ∈ as.reverse ++ st' := List.mem_append_left _ (List.mem_reverse.mpr hw)
                      rw [h1] at hz_
                      exact hz_
            have hM_ := hcall m2 as σ v σ2 hca_ hex_ hR.2.2.1 has_
            exact call_ok (mc := 0) (ms := 0) F hE hAn hRfr hRlo F.2.2.2.2.2.2.2.2.2.2.2.2.1 F.2.2.2.2.2.2.2.2.2.2.2.2.2 hdg hok hcl_ hin_ hM_ hk_ H locs real hR
        case h_2 hcl_ =>
          split at h
          case h_2 => exact nomatch h
          case h_1 q2 hst_ =>
            exact step_ok F hsc hstr hdg hok hst_ (ih _ h)
end BODY
