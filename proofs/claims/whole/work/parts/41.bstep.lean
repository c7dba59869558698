/-! ONE STEP OF A CONSTRUCTOR: what the concrete reader does the machine does -/
def bAg (n0 : Nat) (ρ0 ρ : Nat → Nat) : Prop := ∀ k, k < n0 ∨ xNA ≤ k → ρ k = ρ0 k
theorem bAg.push {n0 n q : Nat} {ρ0 ρ : Nat → Nat} (h : bAg n0 ρ0 ρ) (h1 : n0 ≤ n) (h2 : n < xNA) : bAg n0 ρ0 (bRho ρ n q) := by
  intro k hk
  have h3 : k ≠ n := by
    rcases hk with z | z <;> omega
  show (if k = n then q else ρ k) = ρ0 k
  rw [if_neg h3]
  exact h k hk
theorem bSl_app (Wd : bW) (c : bC) : bSl (Wd ++ [c]) = bSl Wd + c.2.1 := by
  unfold bSl
  simp
theorem bSl_set {Wd : bW} {a : Nat} {c d : bC} (h : Wd[a]? = some c) (hd : d.2.1 = c.2.1) : bSl (Wd.set a d) = bSl Wd := by
  unfold bSl
  have h1 : (Wd.set a d).map (fun c => c.2.1) = Wd.map (fun c => c.2.1) := by
    apply List.ext_getElem?
    intro j
    rw [List.map_set, hd]
    by_cases hj : a = j
    · subst hj
      have hl := (List.getElem?_eq_some_iff.mp h).1
      rw [List.getElem?_set_self (by simpa using hl), List.getElem?_map, h]
      rfl
    · rw [List.getElem?_set_ne hj]
  rw [h1]
theorem bE_obj {cs ρ : Nat → Nat} {ci n : Nat} {f : Nat → xV} (h : ci < 13) : bE cs ρ (ci, n, f) = .inr (ci, (List.range n).map (fun k => emb ρ (f k))) := if_pos h
theorem bE_put {cs ρ : Nat → Nat} {ci n k : Nat} {f : Nat → xV} {v : xV} (h : ci < 13) : bE cs ρ (ci, n, bUp f k v) = .inr (ci, ((List.range n).map (fun k => emb ρ (f k))).set k (emb ρ v)) := by
  rw [bE_obj h]
  congr 2
  apply List.ext_getElem?
  intro j
  by_cases hj : j < n
  · by_cases hk : j = k
    · subst hk
      rw [List.getElem?_set_self (by simpa using hj)]
      simp [List.getElem?_map, List.getElem?_range hj, bUp]
    · rw [List.getElem?_set_ne (Ne.symm hk)]
      simp [List.getElem?_map, List.getElem?_range hj, bUp, hk]
  · rw [List.getElem?_eq_none (by simp; omega), List.getElem?_eq_none (by simp; omega)]
theorem bE_int {cs ρ : Nat → Nat} {kd n : Nat} {f : Nat → xV} (h : kd = 20 ∨ kd = 21 ∨ kd = 22) : bE cs ρ (kd, n, f) = .inl (cs kd, n, .inl (fun i => Int32.ofInt (bNum (f i)))) := by
  unfold bE
  simp only
  rw [if_neg (by omega), if_neg (by omega), if_neg (by omega)]
theorem bE_long {cs ρ : Nat → Nat} {n : Nat} {f : Nat → xV} : bE cs ρ (23, n, f) = .inl (cs 23, n, .inr (.inl (fun i => Int64.ofInt (bNum (f i))))) := rfl
theorem bE_ref {cs ρ : Nat → Nat} {n : Nat} {f : Nat → xV} : bE cs ρ (24, n, f) = .inl (cs 24, n, .inr (.inr (.inr (.inr (fun i => bRef ρ (if i < n then f i else vN)))))) := rfl
theorem bDef_ok {ci k : Nat} (hc : ci < 13) (hk : k < nf ci) (ρ : Nat → Nat) : defaultValue (fTy ci k) = emb ρ (bDef ci k) := by
  rcases (fk_ok ci hc k hk).1 with ⟨h1, h2, -⟩ | ⟨h1, h2, -⟩ | ⟨h1, h2, -⟩ | h1
  · rw [h2]
    unfold bDef
    rw [h1]
    rfl
  · rw [h2]
    unfold bDef
    rw [h1]
    rfl
  · rw [h2]
    unfold bDef
    rw [h1]
    rfl
  · rw [(fkR hc hk h1).1]
    unfold bDef
    rw [h1]
    rfl
section BSTEP
variable {p : Program} {l : Launch} {e : Env} {R : Room} {s : State} {m : MethodId} {args : Array Value} {below : List Frame} {meth : Method} {c : Code} {Q : State → Prop} {cc : ByteArray}
variable {cs ρ0 : Nat → Nat} {dC : Nat → ClassId} {dI : Nat → Nat → Nat} {A : Nat → Prop} {H0 : Heap} {nL own n0 m0 : Nat}
/-- the goal: from the machine's place that stands for q -/
def WB (p : Program) (l : Launch) (e : Env) (R : Room) (s : State) (m : MethodId) (args : Array Value) (below : List Frame) (meth : Method) (c : Code) (Q : State → Prop)
    (cs ρ0 : Nat → Nat) (dC : Nat → ClassId) (dI : Nat → Nat → Nat) (A : Nat → Prop) (H0 : Heap) (nL n0 m0 : Nat) (q : bS) : Prop :=
  ∀ (ρ : Nat → Nat) (H : Heap) (locs : List Loc) (real : Array Slot) (cells slots : Nat), bAg n0 ρ0 ρ → va_P (dC, dI) vwCl (bwd cs ρ q.2.2.2) H → va_D A (bwd cs ρ q.2.2.2) → va_S A H0 H locs → lv_has real nL (lvL ρ q.2.1) → q.2.1.length = nL → cells + n0 = q.2.2.2.length → slots + m0 = bSl q.2.2.2 →
    W p l e R s m args below meth c H locs cells slots Q (F0 m q.1 real (q.2.2.1.map (emb ρ)))
def FrB (p : Program) (R : Room) (s : State) (m : MethodId) (args : Array Value) (meth : Method) (c : Code) (cc : ByteArray) (cs : Nat → Nat) (dC : Nat → ClassId) (dI : Nat → Nat → Nat) (A : Nat → Prop) (H0 : Heap) (nL own : Nat) : Prop :=
  p.tables.exec = Jvm.exec ∧ c.code = cc ∧ c.maxLocals = nL ∧ s.vm.findClass (cnm own) = some m.cls ∧ (∀ w ∈ GW, w.before args s = true) ∧ NWs s ∧ va_K (dC, dI) vwCl (wtys cs) s ∧ va_AO "BentPenny$State" s ∧ (own < 13 → meth.name = "<init>") ∧ (∀ q, H0.size ≤ q → A q) ∧ 8 ≤ R.frames ∧ 60 ≤ R.locals
theorem n_arg {x : Int} (h : 0 ≤ x ∧ x < 100000) : ¬ Int32.ofInt x < 0 ∧ (Int32.ofInt x).toNatClampNeg = x.toNat := by
  have h1 : in32 x := ⟨by omega, by omega⟩
  refine ⟨?_, n_nat h.1 h1⟩
  rw [n_zero, i32_lt h1 n_in0]
  omega
set_option maxHeartbeats 4000000 in
set_option maxRecDepth 20000 in
theorem bstep_ok (F : FrB p R s m args meth c cc cs dC dI A H0 nL own) {pc : Nat} {ls : xL} {st : List xV} {Wd : bW} {i : Instr} {len : Nat} (hdg : decode cc pc = .ok (i, len)) (hok : bOkI own pc len i = true) (hchk : bChk st i = true) {q' : bS} (hst : bStep own pc ls st Wd i = some q')
    (hlim : q'.2.2.2.length ≤ n0 + R.cells ∧ bSl q'.2.2.2 ≤ m0 + R.slots) (kk : WB p l e R s m args below meth c Q cs ρ0 dC dI A H0 nL n0 m0 q') : WB p l e R s m args below meth c Q cs ρ0 dC dI A H0 nL n0 m0 (pc, ls, st, Wd) := by
  obtain ⟨hx, hb, hml, hown, hts, hnw, hK, hAO, hinit, hAn, hRf, hRl⟩ := F
  intro ρ H locs real cells slots hag hP hD hS hl hn hce hsl
  change ls.length = nL at hn
  change va_P (dC, dI) vwCl (bwd cs ρ Wd) H at hP
  change va_D A (bwd cs ρ Wd) at hD
  change lv_has real nL (lvL ρ ls) at hl
  change cells + n0 = Wd.length at hce
  change slots + m0 = bSl Wd at hsl
  show W p l e R s m args below meth c H locs cells slots Q (F0 m pc real (st.map (emb ρ)))
  have hsz : real.size = nL := hl.1
  cases i <;> try (simp only [bStep, reduceCtorEq] at hst; done)
  case aload_n i =>
    have hlen := Nat.eq_of_beq_eq_true hok
    subst hlen
    dsimp only [bStep] at hst
    split at hst
    case h_2 => exact nomatch hst
    case h_1 r hat_ =>
      cases hst
      have hv_ := hl.2.2 _ (lvL_in (lvE_of (ρ := ρ) hat_ (fun z_ => nomatch z_)))
      cases r with
      | none => exact lv_aload_nN hx hb hdg rfl hv_ (kk ρ H locs real cells slots hag hP hD hS hl hn hce hsl)
      | some a => exact lv_aload_n hx hb hdg rfl hv_ (kk ρ H locs real cells slots hag hP hD hS hl hn hce hsl)
  case iload_n i =>
    have hlen := Nat.eq_of_beq_eq_true hok
    subst hlen
    dsimp only [bStep] at hst
    split at hst
    case h_2 => exact nomatch hst
    case h_1 x hat_ =>
      cases hst
      have hv_ := hl.2.2 _ (lvL_in (lvE_of (ρ := ρ) hat_ (fun z_ => nomatch z_)))
      exact lv_iload_n hx hb hdg rfl hv_ (kk ρ H locs real cells slots hag hP hD hS hl hn hce hsl)
  case istore_n i =>
    have hlen := Nat.eq_of_beq_eq_true hok
    subst hlen
    dsimp only [bStep] at hst
    split at hst
    case h_2 => exact nomatch hst
    case h_1 x st2 =>
      cases hlt_ : Nat.blt i.val ls.length with
      | false =>
        rw [hlt_] at hst
        cases hst
      | true =>
        rw [hlt_] at hst
        cases hst
        have hlt_ : i.val < ls.length := Nat.le_of_ble_eq_true hlt_
        refine lv_istore_n hx hb hdg rfl hl (by omega) rfl (fun real2 hl2 => ?_)
        exact kk ρ H locs real2 cells slots hag hP hD hS (lv_more hl2 (lvL_set1 (v := vI x) rfl)) (by simp only [List.length_set]; exact hn) hce hsl
  case istore i =>
    have hlen := Nat.eq_of_beq_eq_true hok
    subst hlen
    dsimp only [bStep] at hst
    split at hst
    case h_2 => exact nomatch hst
    case h_1 x st2 =>
      cases hlt_ : Nat.blt i ls.length with
      | false =>
        rw [hlt_] at hst
        cases hst
      | true =>
        rw [hlt_] at hst
        cases hst
        have hlt_ : i < ls.length := Nat.le_of_ble_eq_true hlt_
        refine lv_istore hx hb hdg hl (by omega) rfl (fun real2 hl2 => ?_)
        exact kk ρ H locs real2 cells slots hag hP hD hS (lv_more hl2 (lvL_set1 (v := vI x) rfl)) (by simp only [List.length_set]; exact hn) hce hsl
  case astore_n i =>
    have hlen := Nat.eq_of_beq_eq_true hok
    subst hlen
    dsimp only [bStep] at hst
    split at hst
    case h_2 => exact nomatch hst
    case h_1 a st2 =>
      cases hlt_ : Nat.blt i.val ls.length with
      | false =>
        rw [hlt_] at hst
        cases hst
      | true =>
        rw [hlt_] at hst
        cases hst
        have hlt_ : i.val < ls.length := Nat.le_of_ble_eq_true hlt_
        refine lv_astore_n hx hb hdg rfl hl (by omega) rfl (fun real2 hl2 => ?_)
        exact kk ρ H locs real2 cells slots hag hP hD hS (lv_more hl2 (lvL_set1 (v := vR a) rfl)) (by simp only [List.length_set]; exact hn) hce hsl
  case dup =>
    have hlen := Nat.eq_of_beq_eq_true hok
    subst hlen
    dsimp only [bStep] at hst
    split at hst
    case h_3 => exact nomatch hst
    case h_1 x st2 =>
      cases hst
      exact lv_dup hx hb hdg rfl (kk ρ H locs real cells slots hag hP hD hS hl hn hce hsl)
    case h_2 r st2 =>
      cases hst
      exact lv_dup hx hb hdg (by rw [emb_cat]; rfl) (kk ρ H locs real cells slots hag hP hD hS hl hn hce hsl)
  case iconst n =>
    simp only [bOkI, okI, Bool.and_eq_true, decide_eq_true_eq] at hok
    have hlen := Nat.eq_of_beq_eq_true hok.1
    subst hlen
    cases hst
    exact lv_iconst hx hb hdg rfl (kk ρ H locs real cells slots hag hP hD hS hl hn hce hsl)
  case bipush n =>
    simp only [bOkI, okI, Bool.and_eq_true, decide_eq_true_eq] at hok
    obtain ⟨hl1_, hr_⟩ := hok
    have hlen := Nat.eq_of_beq_eq_true hl1_
    subst hlen
    cases hst
    refine lv_bipush (v := Int32.ofInt n) hx hb hdg ?_ (kk ρ H locs real cells slots hag hP hD hS hl hn hce hsl)
    rw [← Int32.toInt_inj, Int8.toInt_toInt32, Int8.toInt_ofInt, i32_of ⟨by omega, by omega⟩]
    exact Int.bmod_eq_of_le (m := 256) (by omega) (by omega)
  case sipush n =>
    simp only [bOkI, okI, Bool.and_eq_true, decide_eq_true_eq] at hok
    obtain ⟨hl1_, hr_⟩ := hok
    have hlen := Nat.eq_of_beq_eq_true hl1_
    subst hlen
    cases hst
    refine lv_sipush (v := Int32.ofInt n) hx hb hdg ?_ (kk ρ H locs real cells slots hag hP hD hS hl hn hce hsl)
    rw [← Int32.toInt_inj, Int16.toInt_toInt32, Int16.toInt_ofInt, i32_of ⟨by omega, by omega⟩]
    exact Int.bmod_eq_of_le (m := 65536) (by omega) (by omega)
  case lconst n =>
    have hlen := Nat.eq_of_beq_eq_true hok
    subst hlen
    dsimp only [bStep] at hst
    cases hd_ : decide (n = 0 ∨ n = 1) with
    | false =>
      rw [hd_] at hst
      cases hst
    | true =>
      rw [hd_] at hst
      cases hst
      exact lv_lconst (v := Int64.ofInt ((n.val : Nat) : Int)) hx hb hdg rfl (kk ρ H locs real cells slots hag hP hD hS hl hn hce hsl)
  case new i =>
    have hlen := Nat.eq_of_beq_eq_true hok
    subst hlen
    dsimp only [bStep] at hst
    split at hst
    case h_2 => exact nomatch hst
    case h_1 ci pw hn_ =>
      cases hg_ : (bFrOk Wd.length ls st && bWOk Wd && Nat.blt Wd.length xNA) with
      | false =>
        rw [hg_] at hst
        cases hst
      | true =>
        rw [hg_] at hst
        cases hst
        simp only [Bool.and_eq_true] at hg_
        obtain ⟨⟨g1_, g2_⟩, g3_⟩ := hg_
        have g3_ : Wd.length < xNA := Nat.le_of_ble_eq_true g3_
        obtain ⟨w1_, w2_, w3_, hci_⟩ := bNew_ok hn_
        simp only [List.length_append, List.length_cons, List.length_nil, bSl_app] at hlim
        refine va_new (D := (dC, dI)) (ci := ci) (C := cnm ci) (T := TT ci) (N := nf ci) (fs := (List.range (nf ci)).map (fun k => emb ρ (bDef ci k))) hx hb hts (uw_in ci hci_) (fTy ci) (fTy_ok ci hci_) hown (hts _ w1_) (hts _ w2_) (hts _ w3_) hK hP hD hS hAn (cl_at ci hci_) (fun j hj => ?_) (by omega) (by omega) hdg (fun q H1 hP1_ hD1_ hS1_ => ?_)
        · rw [bDef_ok hci_ hj ρ]
          simp [vp_V, List.getD, List.getElem?_map, List.getElem?_range hj]
        · have hfs_ : (List.range (nf ci)).map (fun k => emb ρ (bDef ci k)) = (List.range (nf ci)).map (fun k => emb (bRho ρ Wd.length q) (bDef ci k)) := by
            apply List.map_congr_left
            intro k _
            unfold bDef
            split <;> rfl
          have he_ : (Sum.inr (ci, (List.range (nf ci)).map (fun k => emb ρ (bDef ci k))) : va_E) = bE cs (bRho ρ Wd.length q) (ci, nf ci, bDef ci) := by rw [bE_obj hci_, hfs_]
          rw [he_, bwd_push g3_ g2_] at hP1_ hD1_
          have hz_ := kk (bRho ρ Wd.length q) H1 locs real (cells + 1) (slots + nf ci) (hag.push (by omega) g3_) hP1_ hD1_ hS1_ (by rw [lvL_bRho g3_ g1_]; exact hl) hn (by simp; omega) (by rw [bSl_app]; simp only; omega)
          have hmp_ : (vR Wd.length :: st).map (emb (bRho ρ Wd.length q)) = .ref q :: st.map (emb ρ) := by
            rw [List.map_cons, emb_bRho_st g3_ g1_]
            congr 1
            show Value.ref (if Wd.length = Wd.length then q else ρ Wd.length) = Value.ref q
            rw [if_pos rfl]
          rw [show ((pc + 3, ls, vR Wd.length :: st, Wd ++ [(ci, nf ci, bDef ci)]) : bS).2.2.1 = vR Wd.length :: st from rfl, hmp_] at hz_
          exact hz_
  case newarray t =>
    have hlen := Nat.eq_of_beq_eq_true hok
    subst hlen
    dsimp only [bStep] at hst
    split at hst
    case h_2 => exact nomatch hst
    case h_1 kd z x st2 hak_ =>
      cases hg_ : (bFrOk Wd.length ls st2 && bWOk Wd && Nat.blt Wd.length xNA && decide (0 ≤ x ∧ x < 100000)) with
      | false =>
        rw [hg_] at hst
        cases hst
      | true =>
        rw [hg_] at hst
        cases hst
        simp only [Bool.and_eq_true, decide_eq_true_eq] at hg_
        obtain ⟨⟨⟨g1_, g2_⟩, g3_⟩, g4_⟩ := hg_
        have g3_ : Wd.length < xNA := Nat.le_of_ble_eq_true g3_
        obtain ⟨hx0_, hxn_⟩ := n_arg g4_
        simp only [List.length_append, List.length_cons, List.length_nil, bSl_app] at hlim
        have hfin_ : ∀ (q : Nat) (H1 : Heap), va_P (dC, dI) vwCl (bwd cs ρ Wd ++ [(q, bE cs (bRho ρ Wd.length q) (kd, x.toNat, bCon z))]) H1 → va_D A (bwd cs ρ Wd ++ [(q, bE cs (bRho ρ Wd.length q) (kd, x.toNat, bCon z))]) → va_S A H0 H1 locs → W p l e R s m args below meth c H1 locs (cells + 1) (slots + x.toNat) Q (F0 m (pc + 2) real (.ref q :: st2.map (emb ρ))) := by
          intro q H1 hP1_ hD1_ hS1_
          rw [bwd_push g3_ g2_] at hP1_ hD1_
          have hz_ := kk (bRho ρ Wd.length q) H1 locs real (cells + 1) (slots + x.toNat) (hag.push (by omega) g3_) hP1_ hD1_ hS1_ (by rw [lvL_bRho g3_ g1_]; exact hl) hn (by simp; omega) (by rw [bSl_app]; simp only; omega)
          have hmp_ : (vR Wd.length :: st2).map (emb (bRho ρ Wd.length q)) = .ref q :: st2.map (emb ρ) := by
            rw [List.map_cons, emb_bRho_st g3_ g1_]
            congr 1
            show Value.ref (if Wd.length = Wd.length then q else ρ Wd.length) = Value.ref q
            rw [if_pos rfl]
          rw [show ((pc + 2, ls, vR Wd.length :: st2, Wd ++ [(kd, x.toNat, bCon z)]) : bS).2.2.1 = vR Wd.length :: st2 from rfl, hmp_] at hz_
          exact hz_
        cases t <;> try (cases hak_; done)
        case boolean =>
          cases hak_
          refine va_newa (atype := .boolean) (ty := .boolean) (N' := x.toNat) (a0 := (x.toNat, .inl (fun _ => Int32.ofInt 0))) hx hb (hts _ bArr_boolean) rfl hK hP hD hS hAn (fun _ => rfl) hx0_ hxn_ (by show x.toNat * 1 ≤ 536870912; omega) (by omega) (by omega) hdg (fun q cA H1 hK1_ hP1_ hD1_ hS1_ => ?_)
          have h1_ := (hK1_.2 (wtys cs).length (cA, .boolean) (by simp)).2
          have h2_ := (hK.2 1 (cs 21, .boolean) rfl).2
          have hcA_ : cA = cs 21 := Option.some.inj (Eq.trans (Eq.symm h1_) h2_)
          subst hcA_
          exact hfin_ q H1 hP1_ hD1_ hS1_
        case byte =>
          cases hak_
          refine va_newa (atype := .byte) (ty := .byte) (N' := x.toNat) (a0 := (x.toNat, .inl (fun _ => Int32.ofInt 0))) hx hb (hts _ bArr_byte) rfl hK hP hD hS hAn (fun _ => rfl) hx0_ hxn_ (by show x.toNat * 1 ≤ 536870912; omega) (by omega) (by omega) hdg (fun q cA H1 hK1_ hP1_ hD1_ hS1_ => ?_)
          have h1_ := (hK1_.2 (wtys cs).length (cA, .byte) (by simp)).2
          have h2_ := (hK.2 0 (cs 20, .byte) rfl).2
          have hcA_ : cA = cs 20 := Option.some.inj (Eq.trans (Eq.symm h1_) h2_)
          subst hcA_
          exact hfin_ q H1 hP1_ hD1_ hS1_
        case int =>
          cases hak_
          refine va_newa (atype := .int) (ty := .int) (N' := x.toNat) (a0 := (x.toNat, .inl (fun _ => Int32.ofInt 0))) hx hb (hts _ bArr_int) rfl hK hP hD hS hAn (fun _ => rfl) hx0_ hxn_ (by show x.toNat * 4 ≤ 536870912; omega) (by omega) (by omega) hdg (fun q cA H1 hK1_ hP1_ hD1_ hS1_ => ?_)
          have h1_ := (hK1_.2 (wtys cs).length (cA, .int) (by simp)).2
          have h2_ := (hK.2 2 (cs 22, .int) rfl).2
          have hcA_ : cA = cs 22 := Option.some.inj (Eq.trans (Eq.symm h1_) h2_)
          subst hcA_
          exact hfin_ q H1 hP1_ hD1_ hS1_
        case long =>
          cases hak_
          refine va_newa (atype := .long) (ty := .long) (N' := x.toNat) (a0 := (x.toNat, .inr (.inl (fun _ => Int64.ofInt 0)))) hx hb (hts _ bArr_long) rfl hK hP hD hS hAn (fun _ => rfl) hx0_ hxn_ (by show x.toNat * 8 ≤ 536870912; omega) (by omega) (by omega) hdg (fun q cA H1 hK1_ hP1_ hD1_ hS1_ => ?_)
          have h1_ := (hK1_.2 (wtys cs).length (cA, .long) (by simp)).2
          have h2_ := (hK.2 3 (cs 23, .long) rfl).2
          have hcA_ : cA = cs 23 := Option.some.inj (Eq.trans (Eq.symm h1_) h2_)
          subst hcA_
          exact hfin_ q H1 hP1_ hD1_ hS1_
  case anewarray ix =>
    have hlen := Nat.eq_of_beq_eq_true hok
    subst hlen
    dsimp only [bStep] at hst
    split at hst
    case h_2 => exact nomatch hst
    case h_1 pw x st2 har_ =>
      cases hg_ : (bFrOk Wd.length ls st2 && bWOk Wd && Nat.blt Wd.length xNA && decide (0 ≤ x ∧ x < 100000)) with
      | false =>
        rw [hg_] at hst
        cases hst
      | true =>
        rw [hg_] at hst
        cases hst
        simp only [Bool.and_eq_true, decide_eq_true_eq] at hg_
        obtain ⟨⟨⟨g1_, g2_⟩, g3_⟩, g4_⟩ := hg_
        have g3_ : Wd.length < xNA := Nat.le_of_ble_eq_true g3_
        obtain ⟨hx0_, hxn_⟩ := n_arg g4_
        simp only [List.length_append, List.length_cons, List.length_nil, bSl_app] at hlim
        refine va_newq (C := "BentPenny$State") (N' := x.toNat) hx hb hown (hts _ (bArr_ok har_ rfl)) hAO hK hP hD hS hAn hx0_ hxn_ (by omega) (by omega) (by omega) hdg (fun q cA H1 hK1_ hP1_ hD1_ hS1_ => ?_)
        have h1_ := (hK1_.2 (wtys cs).length (cA, .object "BentPenny$State") (by simp)).2
        have h2_ := (hK.2 4 (cs 24, .object "BentPenny$State") rfl).2
        obtain ⟨-, -, -, -, -, h3_⟩ := h1_
        obtain ⟨-, -, -, -, -, h4_⟩ := h2_
        have hcA_ : cA = cs 24 := Option.some.inj (Eq.trans (Eq.symm h3_) h4_)
        subst hcA_
        have he_ : (Sum.inl (cs 24, x.toNat, .inr (.inr (.inr (.inr (fun _ => none))))) : va_E) = bE cs (bRho ρ Wd.length q) (24, x.toNat, bCon vN) := by
          rw [bE_ref]
          congr 7
          funext i
          split <;> rfl
        rw [he_, bwd_push g3_ g2_] at hP1_ hD1_
        have hz_ := kk (bRho ρ Wd.length q) H1 locs real (cells + 1) (slots + x.toNat) (hag.push (by omega) g3_) hP1_ hD1_ hS1_ (by rw [lvL_bRho g3_ g1_]; exact hl) hn (by simp; omega) (by rw [bSl_app]; simp only; omega)
        have hmp_ : (vR Wd.length :: st2).map (emb (bRho ρ Wd.length q)) = .ref q :: st2.map (emb ρ) := by
          rw [List.map_cons, emb_bRho_st g3_ g1_]
          congr 1
          show Value.ref (if Wd.length = Wd.length then q else ρ Wd.length) = Value.ref q
          rw [if_pos rfl]
        rw [show ((pc + 3, ls, vR Wd.length :: st2, Wd ++ [(24, x.toNat, bCon vN)]) : bS).2.2.1 = vR Wd.length :: st2 from rfl, hmp_] at hz_
        exact hz_
  case getfield i =>
    have hlen := Nat.eq_of_beq_eq_true hok
    subst hlen
    dsimp only [bStep] at hst
    split at hst
    case h_2 => exact nomatch hst
    case h_1 ci k a st2 hf_ =>
      split at hst
      case h_2 => exact nomatch hst
      case h_1 kd ln f hW_ =>
        cases hg_ : (Nat.beq kd ci && Nat.beq ln (nf ci) && Nat.blt k (nf ci) && bFit (fty ci k) (f k)) with
        | false =>
          rw [hg_] at hst
          cases hst
        | true =>
          rw [hg_] at hst
          cases hst
          simp only [Bool.and_eq_true] at hg_
          have hkd_ : kd = ci := Nat.eq_of_beq_eq_true hg_.1.1.1
          have hln_ : ln = nf ci := Nat.eq_of_beq_eq_true hg_.1.1.2
          subst hkd_
          subst hln_
          obtain ⟨hci_, hk_, nest, hw_⟩ := fld_ok hf_
          have hcell_ : (bwd cs ρ Wd)[a]? = some (ρ a, .inr (kd, (List.range (nf kd)).map (fun k => emb ρ (f k)))) := by rw [bwd_at, hW_, Option.map_some, bE_obj hci_]
          have hkn_ := kk ρ H locs real cells slots hag hP hD hS hl hn hce hsl
          have hfk_ := (fk_ok kd hci_ k hk_).2
          have hv_ : ((List.range (nf kd)).map (fun k => emb ρ (f k)))[k]? = some (emb ρ (f k)) := by simp [List.getElem?_map, List.getElem?_range hk_]
          cases hnb_ : Nat.beq nest 0 with
          | true =>
            unfold fw at hw_
            rw [hnb_] at hw_
            exact va_get (D := (dC, dI)) (ci := kd) (C := cnm kd) (T := TT kd) (N := nf kd) hx hb hts (uw_in kd hci_) hown hK hP a hcell_ (cl_at kd hci_) k hk_ (hts _ (GW_of hw_ rfl)) (fq_same hfk_) hv_ hdg hkn_
          | false =>
            unfold fw at hw_
            rw [hnb_] at hw_
            exact va_getN (D := (dC, dI)) (ci := kd) (C := cnm kd) (T := TT kd) (N := nf kd) hx hb hts (uw_in kd hci_) hown hK hP a hcell_ (cl_at kd hci_) k hk_ (va_Nw.use rfl (hnw _ hw_ rfl)) (fq_same hfk_) hv_ hdg hkn_
  case putfield i =>
    have hlen := Nat.eq_of_beq_eq_true hok
    subst hlen
    dsimp only [bStep] at hst
    split at hst
    case h_2 => exact nomatch hst
    case h_1 ci k v a st2 hf_ =>
      split at hst
      case h_2 => exact nomatch hst
      case h_1 kd ln f hW_ =>
        cases hg_ : (Nat.beq kd ci && Nat.beq own ci && Nat.beq ln (nf ci) && Nat.blt k (nf ci) && bFit (fty ci k) v) with
        | false =>
          rw [hg_] at hst
          cases hst
        | true =>
          rw [hg_] at hst
          cases hst
          simp only [Bool.and_eq_true] at hg_
          obtain ⟨⟨⟨⟨g1_, g2_⟩, g3_⟩, g4_⟩, g5_⟩ := hg_
          have hkd_ : kd = ci := Nat.eq_of_beq_eq_true g1_
          have how_ : own = ci := Nat.eq_of_beq_eq_true g2_
          have hln_ : ln = nf ci := Nat.eq_of_beq_eq_true g3_
          subst hkd_
          subst hln_
          subst how_
          obtain ⟨hci_, hk_, -⟩ := fld_ok hf_
          have hlk_ := fldO_ok hf_ rfl
          have hcell_ : (bwd cs ρ Wd)[a]? = some (ρ a, .inr (own, (List.range (nf own)).map (fun k => emb ρ (f k)))) := by rw [bwd_at, hW_, Option.map_some, bE_obj hci_]
          obtain ⟨hfk1_, hfk_⟩ := fk_ok own hci_ k hk_
          have hput_ : narrow (fTy own k) (emb ρ v) = emb ρ v ∧ fits (fTy own k) (emb ρ v) = true := by
            rcases v with y | y | y
            · unfold bFit at g5_
              simp only [Bool.or_eq_true, Bool.and_eq_true, decide_eq_true_eq] at g5_
              rcases hfk1_ with ⟨f0_, f1_, f2_⟩ | ⟨f0_, f1_, f2_⟩ | ⟨f0_, f1_, f2_⟩ | f0_
              · rw [f1_]
                exact ⟨rfl, rfl⟩
              · rw [f0_] at g5_
                rcases g5_ with g5_ | g5_
                · exact absurd g5_ (by decide)
                · exact absurd g5_.1 (by decide)
              · rw [f0_] at g5_
                rw [f1_]
                rcases g5_ with g5_ | g5_
                · exact absurd g5_ (by decide)
                · rcases g5_.2 with rfl | rfl <;> exact ⟨rfl, rfl⟩
              · rw [f0_] at g5_
                rcases g5_ with g5_ | g5_
                · exact absurd g5_ (by decide)
                · exact absurd g5_.1 (by decide)
            · unfold bFit at g5_
              have g6_ := Nat.eq_of_beq_eq_true g5_
              rcases hfk1_ with ⟨f0_, f1_, f2_⟩ | ⟨f0_, f1_, f2_⟩ | ⟨f0_, f1_, f2_⟩ | f0_ <;> rw [f0_] at g6_ <;> try (exact absurd g6_ (by decide); done)
              rw [f1_]
              exact ⟨rfl, rfl⟩
            · unfold bFit at g5_
              have g6_ := Nat.eq_of_beq_eq_true g5_
              cases y with
              | none => exact nomatch hchk
              | some b => exact ⟨narrowR _ _, (fkR hci_ hk_ g6_).2 _⟩
          have hfin2_ : ∀ (H1 : Heap) (locs1 : List Loc), va_P (dC, dI) vwCl ((bwd cs ρ Wd).set a (ρ a, .inr (own, ((List.range (nf own)).map (fun k => emb ρ (f k))).set k (emb ρ v)))) H1 → va_D A ((bwd cs ρ Wd).set a (ρ a, .inr (own, ((List.range (nf own)).map (fun k => emb ρ (f k))).set k (emb ρ v)))) → va_S A H0 H1 locs1 → W p l e R s m args below meth c H1 locs1 cells slots Q (F0 m (pc + 3) real (st2.map (emb ρ))) := by
            intro H1 locs1 hP1_ hD1_ hS1_
            rw [← bE_put (cs := cs) (n := nf own) hci_, bwd_set] at hP1_ hD1_
            exact kk ρ H1 locs1 real cells slots hag hP1_ hD1_ hS1_ hl hn (by simp only [List.length_set]; exact hce) (hsl.trans (Eq.symm (bSl_set hW_ rfl)))
          cases hfn_ : (TT own k).2.2.2 with
          | false => exact va_put (D := (dC, dI)) (ci := own) (C := cnm own) (T := TT own) (N := nf own) hx hb hts (uw_in own hci_) (fTy own) (fTy_ok own hci_) (fNm_ok own hci_) hown hK hP hD hS a hcell_ (cl_at own hci_) k hk_ (hts _ hlk_) (fq_same hfk_) hfn_ (fTy_ok own hci_ k hk_) hput_.1 hput_.2 (by simpa using hk_) hdg hfin2_
          | true => exact va_putF (D := (dC, dI)) (ci := own) (C := cnm own) (T := TT own) (N := nf own) hx hb hts (uw_in own hci_) (fTy own) (fTy_ok own hci_) (fNm_ok own hci_) hown hK hP hD hS a hcell_ (cl_at own hci_) k hk_ (hts _ hlk_) (fq_same hfk_) hfn_ (hinit hci_) hfk_ (fTy_ok own hci_ k hk_) hput_.1 hput_.2 (by simpa using hk_) hdg hfin2_
  case arraylength =>
    have hlen := Nat.eq_of_beq_eq_true hok
    subst hlen
    dsimp only [bStep] at hst
    split at hst
    case h_2 => exact nomatch hst
    case h_1 a st2 =>
      split at hst
      case h_2 => exact nomatch hst
      case h_1 kd ln f hW_ =>
        cases hg_ : ((Nat.beq kd 20 || Nat.beq kd 21 || Nat.beq kd 22 || Nat.beq kd 23 || Nat.beq kd 24) && Nat.blt ln 100000) with
        | false =>
          rw [hg_] at hst
          cases hst
        | true =>
          rw [hg_] at hst
          cases hst
          simp only [Bool.and_eq_true, Bool.or_eq_true] at hg_
          have hkn_ := kk ρ H locs real cells slots hag hP hD hS hl hn hce hsl
          have hcell_ : (bwd cs ρ Wd)[a]? = some (ρ a, bE cs ρ (kd, ln, f)) := by rw [bwd_at, hW_]; rfl
          rcases hg_.1 with (((z_ | z_) | z_) | z_) | z_ <;> have z_ := Nat.eq_of_beq_eq_true z_ <;> subst z_
          · rw [bE_int (by omega)] at hcell_
            exact va_alen hx hb hK hP a 0 hcell_ rfl rfl hdg hkn_
          · rw [bE_int (by omega)] at hcell_
            exact va_alen hx hb hK hP a 1 hcell_ rfl rfl hdg hkn_
          · rw [bE_int (by omega)] at hcell_
            exact va_alen hx hb hK hP a 2 hcell_ rfl rfl hdg hkn_
          · exact va_alen hx hb hK hP a 3 hcell_ rfl rfl hdg hkn_
          · exact va_alen hx hb hK hP a 4 hcell_ rfl rfl hdg hkn_
  case iastore =>
    have hlen := Nat.eq_of_beq_eq_true hok
    subst hlen
    dsimp only [bStep] at hst
    split at hst
    case h_2 => exact nomatch hst
    case h_1 x j a st2 =>
      split at hst
      case h_2 => exact nomatch hst
      case h_1 ln f hW_ =>
        cases hg_ : decide (0 ≤ j ∧ j < (ln : Int) ∧ j < 100000) with
        | false =>
          rw [hg_] at hst
          cases hst
        | true =>
          rw [hg_] at hst
          cases hst
          have hg_ := of_decide_eq_true hg_
          obtain ⟨hj0_, hjn_⟩ := n_arg ⟨hg_.1, hg_.2.2⟩
          have hcell_ : (bwd cs ρ Wd)[a]? = some (ρ a, bE cs ρ (22, ln, f)) := by rw [bwd_at, hW_]; rfl
          rw [bE_int (by omega)] at hcell_
          refine va_iast hx hb hK hP hD hS a 2 hcell_ rfl (fun z_ => z_.elim hj0_ (fun z2_ => by omega)) hdg (fun H1 locs1 hP1_ hD1_ hS1_ => ?_)
          have he_ : (Sum.inl (cs 22, ln, .inl (upd (fun i => Int32.ofInt (bNum (f i))) (Int32.ofInt j).toNatClampNeg (Int32.ofInt x))) : va_E) = bE cs ρ (22, ln, bUp f j.toNat (vI x)) := by
            rw [bE_int (by omega), hjn_]
            congr 4
            funext i
            unfold upd bUp
            split <;> rfl
          rw [he_, bwd_set] at hP1_ hD1_
          exact kk ρ H1 locs1 real cells slots hag hP1_ hD1_ hS1_ hl hn (by simp only [List.length_set]; exact hce) (hsl.trans (Eq.symm (bSl_set hW_ rfl)))
  case aastore =>
    have hlen := Nat.eq_of_beq_eq_true hok
    subst hlen
    dsimp only [bStep] at hst
    split at hst
    case h_2 => exact nomatch hst
    case h_1 b j a st2 =>
      split at hst
      case h_2 => exact nomatch hst
      case h_1 ln f lb fb hW_ hB_ =>
        cases hg_ : decide (0 ≤ j ∧ j < (ln : Int) ∧ j < 100000) with
        | false =>
          rw [hg_] at hst
          cases hst
        | true =>
          rw [hg_] at hst
          cases hst
          have hg_ := of_decide_eq_true hg_
          obtain ⟨hj0_, hjn_⟩ := n_arg ⟨hg_.1, hg_.2.2⟩
          have hcell_ : (bwd cs ρ Wd)[a]? = some (ρ a, bE cs ρ (24, ln, f)) := by rw [bwd_at, hW_]; rfl
          have hcb_ : (bwd cs ρ Wd)[b]? = some (ρ b, bE cs ρ (7, lb, fb)) := by rw [bwd_at, hB_]; rfl
          rw [bE_ref] at hcell_
          rw [bE_obj (by omega)] at hcb_
          refine va_astq (r := (cnm 7, TT 7, nf 7)) hx hb hK hP hD hS a 4 b 7 hcell_ rfl hcb_ (cl_at 7 (by omega)) (fun z_ => z_.elim hj0_ (fun z2_ => by omega)) hdg (fun H1 locs1 hP1_ hD1_ hS1_ => ?_)
          have he_ : (Sum.inl (cs 24, ln, .inr (.inr (.inr (.inr (va_up (fun i => bRef ρ (if i < ln then f i else vN)) (Int32.ofInt j).toNatClampNeg (some (ρ b))))))) : va_E) = bE cs ρ (24, ln, bUp f j.toNat (vR b)) := by
            rw [bE_ref, hjn_]
            congr 7
            funext i
            unfold va_up bUp
            by_cases hi_ : i = j.toNat
            · rw [if_pos hi_, if_pos (by omega), if_pos hi_]
              rfl
            · rw [if_neg hi_, if_neg hi_]
          rw [he_, bwd_set] at hP1_ hD1_
          exact kk ρ H1 locs1 real cells slots hag hP1_ hD1_ hS1_ hl hn (by simp only [List.length_set]; exact hce) (hsl.trans (Eq.symm (bSl_set hW_ rfl)))
  case iinc i n =>
    have hlen := Nat.eq_of_beq_eq_true hok
    subst hlen
    dsimp only [bStep] at hst
    split at hst
    case h_2 => exact nomatch hst
    case h_1 x hat_ =>
      cases hst
      obtain ⟨k, hk_⟩ := List.getElem?_of_mem (lvL_in (lvE_of (ρ := ρ) hat_ (fun z_ => nomatch z_)))
      have hlt_ : i < ls.length := (List.getElem?_eq_some_iff.mp hat_).1
      refine lv_iinc (v := Int32.ofInt (w32 (x + n))) hx hb hdg hl hk_ (n_add32 x n).symm (by omega) rfl (fun real2 hl2 => ?_)
      exact kk ρ H locs real2 cells slots hag hP hD hS (lv_more hl2 (lvL_set1 (v := vI (w32 (x + n))) rfl)) (by simp only [List.length_set]; exact hn) hce hsl
  case goto off =>
    simp only [bOkI, okI, Bool.and_eq_true] at hok
    obtain ⟨hl1_, hr_⟩ := hok
    have hlen := Nat.eq_of_beq_eq_true hl1_
    subst hlen
    dsimp only [bStep] at hst
    rw [hr_] at hst
    cases hst
    exact lv_goto hx hb hdg (tg_ok hr_) (kk ρ H locs real cells slots hag hP hD hS hl hn hce hsl)
  case if_icmp cnd off =>
    simp only [bOkI, okI, Bool.and_eq_true] at hok
    obtain ⟨hl1_, hr_⟩ := hok
    have hlen := Nat.eq_of_beq_eq_true hl1_
    subst hlen
    dsimp only [bStep] at hst
    split at hst
    case h_2 => exact nomatch hst
    case h_1 y x st2 =>
      rw [hr_] at hst
      cases hst
      have hc0_ := of_decide_eq_true hchk
      have hxi_ : in32 x := ⟨by omega, by omega⟩
      have hyi_ : in32 y := ⟨by omega, by omega⟩
      refine lv_icmp_ge hx hb hdg (tg_ok hr_) (fun hc_ => ?_) (fun hc_ => ?_)
      · simp only [ge_iff_le, i32_le hyi_ hxi_] at hc_
        rw [if_neg (by omega)] at kk
        exact kk ρ H locs real cells slots hag hP hD hS hl hn hce hsl
      · simp only [ge_iff_le, i32_le hyi_ hxi_] at hc_
        rw [if_pos (by omega)] at kk
        exact kk ρ H locs real cells slots hag hP hD hS hl hn hce hsl
  case invokespecial i =>
    have hlen := Nat.eq_of_beq_eq_true hok
    subst hlen
    dsimp only [bStep] at hst
    split at hst
    case h_2 => exact nomatch hst
    case h_1 pw a st2 hob_ =>
      cases hst
      have hsm_ : ((vR a :: st2).map xcat).sum ≤ 8 := Nat.le_of_ble_eq_true hchk
      have hsm2_ : ((st2.map (emb ρ)).map fun v => v.category).sum ≤ 8 := by
        rw [emb_sum]
        simp only [List.map_cons, List.sum_cons] at hsm_
        omega
      refine W.objInit hx hb hown (hts _ (bObj_ok hob_)) (hts _ obj_inst) (hts _ obj_code) (g := F0 m pc real (.ref (ρ a) :: st2.map (emb ρ))) rfl (hsz.trans hml.symm) rfl hdg (by omega) (by show 2 * 0 + _ + 12 ≤ R.locals; omega) ?_
      exact kk ρ H locs real cells slots hag hP hD hS hl hn hce hsl
end BSTEP
