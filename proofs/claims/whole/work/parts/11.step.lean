/-! ONE STEP: what the reader does at an instruction the machine does -/
def xnest : Cond → Bool
  | .fieldLinkNest .. => true
  | .methodLinkNest .. => true
  | _ => false
/-- the links to private members of nest mates -/
def NWs (U : State) : Prop := ∀ w ∈ tables_1, xnest w = true → va_Nw w U
/-- the script, where the method has one -/
def ScOk (sc : xSc) (ρ : Nat → Nat) (A : Nat → Prop) (s : State) (H0 : Heap) : Prop := ∀ n f, sc = some (n, f) → ∃ xs : Nat → Int32, va_X (ρ xscr) n xs s H0 ∧ ρ xscr < H0.size ∧ ¬ A (ρ xscr) ∧ n < 65536 ∧ f = fun j => (xs j).toInt
section STEP
variable {p : Program} {l : Launch} {e : Env} {R : Room} {s : State} {m : MethodId} {args : Array Value} {below : List Frame} {meth : Method} {c : Code} {cells slots : Nat} {Q : State → Prop} {cc : ByteArray}
variable {cs ρ : Nat → Nat} {dC : Nat → ClassId} {dI : Nat → Nat → Nat} {A : Nat → Prop} {H0 : Heap} {nL own : Nat} {sc : xSc}
/-- length and charAt of the texts, as the machine does them -/
def StrOk (p : Program) (l : Launch) (e : Env) (R : Room) (s : State) (m : MethodId) (args : Array Value) (below : List Frame) (meth : Method) (c : Code) (cells slots : Nat) (Q : State → Prop) (cc : ByteArray) (ρ : Nat → Nat) (A : Nat → Prop) (H0 : Heap) (nL own : Nat) : Prop :=
  (∀ (i pc a : Nat) (H : Heap) (locs : List Loc) (real : Array Slot) (rest : List Value), mthJ own i = some 5 → isStr a = true → (rest.map fun v => v.category).sum ≤ 8 → real.size = nL → va_S A H0 H locs → decode cc pc = .ok (.invokevirtual i, 3) →
    (∀ locs1, va_S A H0 H locs1 → W p l e R s m args below meth c H locs1 cells slots Q (F0 m (pc + 3) real (.int (Int32.ofInt (slen a)) :: rest))) → W p l e R s m args below meth c H locs cells slots Q (F0 m pc real (.ref (ρ a) :: rest))) ∧
  (∀ (i pc a : Nat) (x : Int) (H : Heap) (locs : List Loc) (real : Array Slot) (rest : List Value), mthJ own i = some 6 → isStr a = true → 0 ≤ x → x < slen a → (rest.map fun v => v.category).sum ≤ 8 → real.size = nL → va_S A H0 H locs → decode cc pc = .ok (.invokevirtual i, 3) →
    (∀ locs1, va_S A H0 H locs1 → W p l e R s m args below meth c H locs1 cells slots Q (F0 m (pc + 3) real (.int (Int32.ofInt (sch a x)) :: rest))) → W p l e R s m args below meth c H locs cells slots Q (F0 m pc real (.int (Int32.ofInt x) :: .ref (ρ a) :: rest)))
/-- what a frame of the method stands on -/
def FrOk (p : Program) (R : Room) (s : State) (m : MethodId) (args : Array Value) (c : Code) (cells slots : Nat) (cc : ByteArray) (cs ρ : Nat → Nat) (dC : Nat → ClassId) (dI : Nat → Nat → Nat) (A : Nat → Prop) (nL own : Nat) : Prop :=
  p.tables.exec = Jvm.exec ∧ c.code = cc ∧ c.maxLocals = nL ∧ s.vm.findClass (cnm own) = some m.cls ∧ (∀ w ∈ GW, w.before args s = true) ∧ NWs s ∧ va_K (dC, dI) vwCl (wtys cs) s ∧
  (∀ a b, a < xNA → b < xNA → ρ a = ρ b → a = b) ∧ (∀ a, a < xNA → A (ρ a)) ∧ (∀ i k, kStr own i = some k → ∃ tx, vk_R (cnm own) i tx (ρ (xstr0 + k)) s) ∧ 8 ≤ R.frames ∧ 60 ≤ R.locals ∧ cells ≤ R.cells ∧ slots ≤ R.slots
theorem ty_at (cs : Nat → Nat) : (wtys cs)[0]? = some (cs 20, .byte) ∧ (wtys cs)[1]? = some (cs 21, .boolean) ∧ (wtys cs)[2]? = some (cs 22, .int) ∧ (wtys cs)[3]? = some (cs 23, .long) ∧ (wtys cs)[4]? = some (cs 24, .object "BentPenny$State") := ⟨rfl, rfl, rfl, rfl, rfl⟩
theorem lay_len {a : Nat} (h : a < xNA) (h2 : 13 ≤ (lay a).1) : (lay a).2 < 65536 := by
  have h1 := List.all_eq_true.mp lay_all a (List.mem_range.mpr h)
  simp only [Bool.or_eq_true, Bool.and_eq_true] at h1
  rcases h1 with h1 | h1
  · have := Nat.le_of_ble_eq_true h1.1
    omega
  · exact Nat.le_of_ble_eq_true h1.2
theorem fq_same {s : State} {ci k : Nat} {F : String} (h : (TT ci k).1 = F) : ∀ x, s.fieldFound? (TT ci k).1 (TT ci k).2.1 (TT ci k).2.2.1 = some x → s.fieldFound? F (TT ci k).2.1 (TT ci k).2.2.1 = some x := fun x hx => h ▸ hx
theorem hv_at {ρ : Nat → Nat} {ci a k : Nat} {σ : xSt} (hk : k < nf ci) : ((List.range (nf ci)).map (fun j => emb ρ (fval ci j a σ)))[k]? = some (emb ρ (fval ci k a σ)) := by simp [List.getElem?_map, List.getElem?_range hk]
set_option maxHeartbeats 4000000 in
set_option maxRecDepth 20000 in
theorem step_ok (F : FrOk p R s m args c cells slots cc cs ρ dC dI A nL own) (hsc : ScOk sc ρ A s H0) (hstr : StrOk p l e R s m args below meth c cells slots Q cc ρ A H0 nL own)
    {pc : Nat} {ls : xL} {st : List xV} {σ : xSt} {i : Instr} {len : Nat} (hdg : decode cc pc = .ok (i, len)) (hok : okI own pc len i = true) {s' : xS} (hst : xstepI sc own pc ls st σ i = some (true, s'))
    (kk : WS p l e R s m args below meth c cells slots Q cs ρ dC dI A H0 nL s') : WS p l e R s m args below meth c cells slots Q cs ρ dC dI A H0 nL (pc, ls, st, σ) := by
  obtain ⟨hx, hb, hml, hown, hts, hnw, hK, hinj, hAr, hks, hRf, hRl, hRc, hRs⟩ := F
  intro H locs real hR
  obtain ⟨hP, hS, hσ, hl, hn, hol, hos⟩ := hR
  change ls.length = nL at hn
  change InR σ at hσ
  change va_P (dC, dI) vwCl (wd cs ρ σ) H at hP
  change lv_has real nL (lvL ρ ls) at hl
  change ∀ w, some w ∈ ls → okV w at hol
  change ∀ w ∈ st, okV w at hos
  show W p l e R s m args below meth c H locs cells slots Q (F0 m pc real (st.map (emb ρ)))
  have hD : va_D A (wd cs ρ σ) := wd_D hinj hAr
  have hsz : real.size = nL := hl.1
  have hmr : c.maxLocals = real.size := hml.trans hsz.symm
  cases i <;> try (simp only [xstepI, reduceCtorEq] at hst; done)
  case aload i =>
    have hlen := Nat.eq_of_beq_eq_true hok
    subst hlen
    cases hq_ : ldR ls i with
    | none =>
      simp only [xstepI, hq_] at hst
      cases hst
    | some r =>
      simp only [xstepI, hq_] at hst
      cases hst
      have hat_ := ldR_at hq_
      have hv_ := hl.2.2 _ (lvL_in (lvE_of (ρ := ρ) hat_ (fun z_ => nomatch z_)))
      cases r with
      | none => exact lv_aloadN hx hb hdg  hv_ (kk _ _ _ ⟨hP, hS, hσ, hl, hn, hol, ok_cons trivial hos⟩)
      | some a => exact lv_aload hx hb hdg  hv_ (kk _ _ _ ⟨hP, hS, hσ, hl, hn, hol, ok_cons trivial hos⟩)
  case aload_n i =>
    have hlen := Nat.eq_of_beq_eq_true hok
    subst hlen
    cases hq_ : ldR ls i.val with
    | none =>
      simp only [xstepI, hq_] at hst
      cases hst
    | some r =>
      simp only [xstepI, hq_] at hst
      cases hst
      have hat_ := ldR_at hq_
      have hv_ := hl.2.2 _ (lvL_in (lvE_of (ρ := ρ) hat_ (fun z_ => nomatch z_)))
      cases r with
      | none => exact lv_aload_nN hx hb hdg rfl hv_ (kk _ _ _ ⟨hP, hS, hσ, hl, hn, hol, ok_cons trivial hos⟩)
      | some a => exact lv_aload_n hx hb hdg rfl hv_ (kk _ _ _ ⟨hP, hS, hσ, hl, hn, hol, ok_cons trivial hos⟩)
  case iload i =>
    have hlen := Nat.eq_of_beq_eq_true hok
    subst hlen
    cases hq_ : ldI ls i with
    | none =>
      simp only [xstepI, hq_] at hst
      cases hst
    | some x =>
      simp only [xstepI, hq_] at hst
      cases hst
      have hat_ := ldI_at (ρ := ρ) hq_
      have hv_ := hl.2.2 _ (lvL_in (lvE_of (ρ := ρ) hat_ (fun z_ => nomatch z_)))
      exact lv_iload hx hb hdg  hv_ (kk _ _ _ ⟨hP, hS, hσ, hl, hn, hol, ok_cons (ok_at hol hat_) hos⟩)
  case iload_n i =>
    have hlen := Nat.eq_of_beq_eq_true hok
    subst hlen
    cases hq_ : ldI ls i.val with
    | none =>
      simp only [xstepI, hq_] at hst
      cases hst
    | some x =>
      simp only [xstepI, hq_] at hst
      cases hst
      have hat_ := ldI_at (ρ := ρ) hq_
      have hv_ := hl.2.2 _ (lvL_in (lvE_of (ρ := ρ) hat_ (fun z_ => nomatch z_)))
      exact lv_iload_n hx hb hdg rfl hv_ (kk _ _ _ ⟨hP, hS, hσ, hl, hn, hol, ok_cons (ok_at hol hat_) hos⟩)
  case lload i =>
    have hlen := Nat.eq_of_beq_eq_true hok
    subst hlen
    cases hq_ : ldL ls i with
    | none =>
      simp only [xstepI, hq_] at hst
      cases hst
    | some x =>
      simp only [xstepI, hq_] at hst
      cases hst
      obtain ⟨hat_, hnx_⟩ := ldL_at hq_
      have hv_ := hl.2.2 _ (lvL_in (lvE_of (ρ := ρ) hat_ (fun _ => hnx_)))
      exact lv_lload hx hb hdg  hv_ (kk _ _ _ ⟨hP, hS, hσ, hl, hn, hol, ok_cons (ok_at hol hat_) hos⟩)
  case lload_n i =>
    have hlen := Nat.eq_of_beq_eq_true hok
    subst hlen
    cases hq_ : ldL ls i.val with
    | none =>
      simp only [xstepI, hq_] at hst
      cases hst
    | some x =>
      simp only [xstepI, hq_] at hst
      cases hst
      obtain ⟨hat_, hnx_⟩ := ldL_at hq_
      have hv_ := hl.2.2 _ (lvL_in (lvE_of (ρ := ρ) hat_ (fun _ => hnx_)))
      exact lv_lload_n hx hb hdg rfl hv_ (kk _ _ _ ⟨hP, hS, hσ, hl, hn, hol, ok_cons (ok_at hol hat_) hos⟩)
  case istore i =>
    have hlen := Nat.eq_of_beq_eq_true hok
    subst hlen
    dsimp only [xstepI] at hst
    split at hst
    case h_2 => exact nomatch hst
    case h_1 x st2 =>
      obtain ⟨hlt_, rfl⟩ := Prod.mk.inj (Option.some.inj hst)
      have hlt_ : i < ls.length := Nat.le_of_ble_eq_true hlt_
      refine lv_istore hx hb hdg  hl (by omega) rfl (fun real2 hl2 => ?_)
      exact kk _ _ _ ⟨hP, hS, hσ, lv_more hl2 (lvL_set1 (v := vI x) rfl), by rw [List.length_set]; exact hn, ok_set hol (fun w hw => by cases hw; exact ok_hd hos), ok_tl hos⟩
  case istore_n i =>
    have hlen := Nat.eq_of_beq_eq_true hok
    subst hlen
    dsimp only [xstepI] at hst
    split at hst
    case h_2 => exact nomatch hst
    case h_1 x st2 =>
      obtain ⟨hlt_, rfl⟩ := Prod.mk.inj (Option.some.inj hst)
      have hlt_ : i.val < ls.length := Nat.le_of_ble_eq_true hlt_
      refine lv_istore_n hx hb hdg rfl hl (by omega) rfl (fun real2 hl2 => ?_)
      exact kk _ _ _ ⟨hP, hS, hσ, lv_more hl2 (lvL_set1 (v := vI x) rfl), by rw [List.length_set]; exact hn, ok_set hol (fun w hw => by cases hw; exact ok_hd hos), ok_tl hos⟩
  case lstore i =>
    have hlen := Nat.eq_of_beq_eq_true hok
    subst hlen
    dsimp only [xstepI] at hst
    split at hst
    case h_2 => exact nomatch hst
    case h_1 x st2 =>
      obtain ⟨hlt_, rfl⟩ := Prod.mk.inj (Option.some.inj hst)
      have hlt_ : i + 1 < ls.length := Nat.le_of_ble_eq_true hlt_
      refine lv_lstore hx hb hdg  hl (by omega) rfl (fun real2 hl2 => ?_)
      exact kk _ _ _ ⟨hP, hS, hσ, lv_more hl2 (lvL_set2 (v := vL x) hlt_), by rw [List.length_set, List.length_set]; exact hn, ok_set (ok_set hol (fun w hw => by cases hw; exact ok_hd hos)) (fun w hw => nomatch hw), ok_tl hos⟩
  case lstore_n i =>
    have hlen := Nat.eq_of_beq_eq_true hok
    subst hlen
    dsimp only [xstepI] at hst
    split at hst
    case h_2 => exact nomatch hst
    case h_1 x st2 =>
      obtain ⟨hlt_, rfl⟩ := Prod.mk.inj (Option.some.inj hst)
      have hlt_ : i.val + 1 < ls.length := Nat.le_of_ble_eq_true hlt_
      refine lv_lstore_n hx hb hdg rfl hl (by omega) rfl (fun real2 hl2 => ?_)
      exact kk _ _ _ ⟨hP, hS, hσ, lv_more hl2 (lvL_set2 (v := vL x) hlt_), by rw [List.length_set, List.length_set]; exact hn, ok_set (ok_set hol (fun w hw => by cases hw; exact ok_hd hos)) (fun w hw => nomatch hw), ok_tl hos⟩
  case astore i =>
    have hlen := Nat.eq_of_beq_eq_true hok
    subst hlen
    dsimp only [xstepI] at hst
    split at hst
    case h_2 => exact nomatch hst
    case h_1 r st2 =>
      obtain ⟨hlt_, rfl⟩ := Prod.mk.inj (Option.some.inj hst)
      have hlt_ : i < ls.length := Nat.le_of_ble_eq_true hlt_
      cases r with
      | none =>
        refine lv_astoreN hx hb hdg  hl (by omega) rfl (fun real2 hl2 => ?_)
        exact kk _ _ _ ⟨hP, hS, hσ, lv_more hl2 (lvL_set1 (v := vN) rfl), by rw [List.length_set]; exact hn, ok_set hol (fun w hw => by cases hw; trivial), ok_tl hos⟩
      | some a =>
        refine lv_astore hx hb hdg  hl (by omega) rfl (fun real2 hl2 => ?_)
        exact kk _ _ _ ⟨hP, hS, hσ, lv_more hl2 (lvL_set1 (v := vR a) rfl), by rw [List.length_set]; exact hn, ok_set hol (fun w hw => by cases hw; trivial), ok_tl hos⟩
  case astore_n i =>
    have hlen := Nat.eq_of_beq_eq_true hok
    subst hlen
    dsimp only [xstepI] at hst
    split at hst
    case h_2 => exact nomatch hst
    case h_1 r st2 =>
      obtain ⟨hlt_, rfl⟩ := Prod.mk.inj (Option.some.inj hst)
      have hlt_ : i.val < ls.length := Nat.le_of_ble_eq_true hlt_
      cases r with
      | none =>
        refine lv_astore_nN hx hb hdg rfl hl (by omega) rfl (fun real2 hl2 => ?_)
        exact kk _ _ _ ⟨hP, hS, hσ, lv_more hl2 (lvL_set1 (v := vN) rfl), by rw [List.length_set]; exact hn, ok_set hol (fun w hw => by cases hw; trivial), ok_tl hos⟩
      | some a =>
        refine lv_astore_n hx hb hdg rfl hl (by omega) rfl (fun real2 hl2 => ?_)
        exact kk _ _ _ ⟨hP, hS, hσ, lv_more hl2 (lvL_set1 (v := vR a) rfl), by rw [List.length_set]; exact hn, ok_set hol (fun w hw => by cases hw; trivial), ok_tl hos⟩
  case iinc i n =>
    have hlen := Nat.eq_of_beq_eq_true hok
    subst hlen
    cases hq_ : ldI ls i with
    | none =>
      simp only [xstepI, hq_] at hst
      cases hst
    | some x =>
      simp only [xstepI, hq_] at hst
      cases hst
      have hat_ := ldI_at (ρ := ρ) hq_
      obtain ⟨k, hk_⟩ := List.getElem?_of_mem (lvL_in (lvE_of (ρ := ρ) hat_ (fun z_ => nomatch z_)))
      have hlt_ : i < ls.length := (List.getElem?_eq_some_iff.mp hat_).1
      refine lv_iinc (v := Int32.ofInt (w32 (x + n))) hx hb hdg hl hk_ (n_add32 x n).symm (by omega) rfl (fun real2 hl2 => ?_)
      exact kk _ _ _ ⟨hP, hS, hσ, lv_more hl2 (lvL_set1 (v := vI (w32 (x + n))) rfl), by rw [List.length_set]; exact hn, ok_set hol (fun w hw => by cases hw; exact w32_in _), hos⟩
  case aconst_null =>
    have hlen := Nat.eq_of_beq_eq_true hok
    subst hlen
    cases hst
    exact lv_null hx hb hdg (kk _ _ _ ⟨hP, hS, hσ, hl, hn, hol, ok_cons trivial hos⟩)
  case iconst n =>
    simp only [okI, Bool.and_eq_true, decide_eq_true_eq] at hok
    obtain ⟨hl1_, hr_⟩ := hok
    have hlen := Nat.eq_of_beq_eq_true hl1_
    subst hlen
    cases hst
    exact lv_iconst hx hb hdg rfl (kk _ _ _ ⟨hP, hS, hσ, hl, hn, hol, ok_cons ⟨by omega, by omega⟩ hos⟩)
  case bipush n =>
    simp only [okI, Bool.and_eq_true, decide_eq_true_eq] at hok
    obtain ⟨hl1_, hr_⟩ := hok
    have hlen := Nat.eq_of_beq_eq_true hl1_
    subst hlen
    cases hst
    refine lv_bipush (v := Int32.ofInt n) hx hb hdg ?_ (kk _ _ _ ⟨hP, hS, hσ, hl, hn, hol, ok_cons ⟨by omega, by omega⟩ hos⟩)
    rw [← Int32.toInt_inj, Int8.toInt_toInt32, Int8.toInt_ofInt, i32_of ⟨by omega, by omega⟩]
    exact Int.bmod_eq_of_le (m := 256) (by omega) (by omega)
  case sipush n =>
    simp only [okI, Bool.and_eq_true, decide_eq_true_eq] at hok
    obtain ⟨hl1_, hr_⟩ := hok
    have hlen := Nat.eq_of_beq_eq_true hl1_
    subst hlen
    cases hst
    refine lv_sipush (v := Int32.ofInt n) hx hb hdg ?_ (kk _ _ _ ⟨hP, hS, hσ, hl, hn, hol, ok_cons ⟨by omega, by omega⟩ hos⟩)
    rw [← Int32.toInt_inj, Int16.toInt_toInt32, Int16.toInt_ofInt, i32_of ⟨by omega, by omega⟩]
    exact Int.bmod_eq_of_le (m := 65536) (by omega) (by omega)
  case lconst n =>
    have hlen := Nat.eq_of_beq_eq_true hok
    subst hlen
    cases hst
    refine lv_lconst (v := Int64.ofInt ((n.val : Nat) : Int)) hx hb hdg rfl (kk _ _ _ ⟨hP, hS, hσ, hl, hn, hol, ok_cons ?_ hos⟩)
    have hv_ := n.isLt
    show in64 ((n.val : Nat) : Int)
    exact ⟨by omega, by omega⟩
  case ldc i =>
    have hlen := Nat.eq_of_beq_eq_true hok
    subst hlen
    cases hq_ : kInt own i with
    | some x =>
      simp only [xstepI, hq_] at hst
      cases hst
      obtain ⟨hw_, hr_⟩ := kI_in hq_
      exact lv_ldc hx hb hown (hts _ hw_) hdg (kk _ _ _ ⟨hP, hS, hσ, hl, hn, hol, ok_cons ⟨by omega, by omega⟩ hos⟩)
    | none =>
      cases hk_ : kStr own i with
      | none =>
        simp only [xstepI, hq_, hk_] at hst
        cases hst
      | some k =>
        simp only [xstepI, hq_, hk_] at hst
        cases hst
        obtain ⟨tx, hZ_⟩ := hks i k hk_
        exact va_ldcS hx hb hown hZ_ hdg (kk _ _ _ ⟨hP, hS, hσ, hl, hn, hol, ok_cons trivial hos⟩)
  case ldc_w i =>
    have hlen := Nat.eq_of_beq_eq_true hok
    subst hlen
    cases hq_ : kInt own i with
    | none =>
      simp only [xstepI, hq_] at hst
      cases hst
    | some x =>
      simp only [xstepI, hq_] at hst
      cases hst
      obtain ⟨hw_, hr_⟩ := kI_in hq_
      exact lv_ldcw hx hb hown (hts _ hw_) hdg (kk _ _ _ ⟨hP, hS, hσ, hl, hn, hol, ok_cons ⟨by omega, by omega⟩ hos⟩)
  case ldc2_w i =>
    have hlen := Nat.eq_of_beq_eq_true hok
    subst hlen
    cases hq_ : kLong own i with
    | none =>
      simp only [xstepI, hq_] at hst
      cases hst
    | some x =>
      simp only [xstepI, hq_] at hst
      cases hst
      obtain ⟨hw_, hr_⟩ := kL_in hq_
      exact lv_ldc2 hx hb hown (hts _ hw_) hdg (kk _ _ _ ⟨hP, hS, hσ, hl, hn, hol, ok_cons ⟨by omega, by omega⟩ hos⟩)
  case iadd =>
    have hlen := Nat.eq_of_beq_eq_true hok
    subst hlen
    dsimp only [xstepI] at hst
    split at hst
    case h_2 => exact nomatch hst
    case h_1 y x st2 =>
      cases hst
      refine lv_iadd hx hb hdg ?_
      rw [← n_add32]
      exact kk _ _ _ ⟨hP, hS, hσ, hl, hn, hol, ok_cons (w32_in _) (ok_tl (ok_tl hos))⟩
  case isub =>
    have hlen := Nat.eq_of_beq_eq_true hok
    subst hlen
    dsimp only [xstepI] at hst
    split at hst
    case h_2 => exact nomatch hst
    case h_1 y x st2 =>
      cases hst
      refine lv_isub hx hb hdg ?_
      rw [← n_sub32]
      exact kk _ _ _ ⟨hP, hS, hσ, hl, hn, hol, ok_cons (w32_in _) (ok_tl (ok_tl hos))⟩
  case imul =>
    have hlen := Nat.eq_of_beq_eq_true hok
    subst hlen
    dsimp only [xstepI] at hst
    split at hst
    case h_2 => exact nomatch hst
    case h_1 y x st2 =>
      cases hst
      refine lv_imul hx hb hdg ?_
      rw [← n_mul32]
      exact kk _ _ _ ⟨hP, hS, hσ, hl, hn, hol, ok_cons (w32_in _) (ok_tl (ok_tl hos))⟩
  case ladd =>
    have hlen := Nat.eq_of_beq_eq_true hok
    subst hlen
    dsimp only [xstepI] at hst
    split at hst
    case h_2 => exact nomatch hst
    case h_1 y x st2 =>
      cases hst
      refine lv_ladd hx hb hdg ?_
      rw [← n_add64]
      exact kk _ _ _ ⟨hP, hS, hσ, hl, hn, hol, ok_cons (w64_in _) (ok_tl (ok_tl hos))⟩
  case lsub =>
    have hlen := Nat.eq_of_beq_eq_true hok
    subst hlen
    dsimp only [xstepI] at hst
    split at hst
    case h_2 => exact nomatch hst
    case h_1 y x st2 =>
      cases hst
      refine lv_lsub hx hb hdg ?_
      rw [← n_sub64]
      exact kk _ _ _ ⟨hP, hS, hσ, hl, hn, hol, ok_cons (w64_in _) (ok_tl (ok_tl hos))⟩
  case lmul =>
    have hlen := Nat.eq_of_beq_eq_true hok
    subst hlen
    dsimp only [xstepI] at hst
    split at hst
    case h_2 => exact nomatch hst
    case h_1 y x st2 =>
      cases hst
      refine lv_lmul hx hb hdg ?_
      rw [← n_mul64]
      exact kk _ _ _ ⟨hP, hS, hσ, hl, hn, hol, ok_cons (w64_in _) (ok_tl (ok_tl hos))⟩
  case iand =>
    have hlen := Nat.eq_of_beq_eq_true hok
    subst hlen
    dsimp only [xstepI] at hst
    split at hst
    case h_2 => exact nomatch hst
    case h_1 y x st2 =>
      cases hst
      refine lv_iand hx hb hdg ?_
      have hz_ := o32_of (fun a b => a &&& b) x y
      rw [show Int32.ofInt x &&& Int32.ofInt y = Int32.ofInt (xand x y) from hz_.symm]
      exact kk _ _ _ ⟨hP, hS, hσ, hl, hn, hol, ok_cons (o32_in _ _ _) (ok_tl (ok_tl hos))⟩
  case ior =>
    have hlen := Nat.eq_of_beq_eq_true hok
    subst hlen
    dsimp only [xstepI] at hst
    split at hst
    case h_2 => exact nomatch hst
    case h_1 y x st2 =>
      cases hst
      refine lv_ior hx hb hdg ?_
      have hz_ := o32_of (fun a b => a ||| b) x y
      rw [show Int32.ofInt x ||| Int32.ofInt y = Int32.ofInt (xor32 x y) from hz_.symm]
      exact kk _ _ _ ⟨hP, hS, hσ, hl, hn, hol, ok_cons (o32_in _ _ _) (ok_tl (ok_tl hos))⟩
  case ixor =>
    have hlen := Nat.eq_of_beq_eq_true hok
    subst hlen
    dsimp only [xstepI] at hst
    split at hst
    case h_2 => exact nomatch hst
    case h_1 y x st2 =>
      cases hst
      refine lv_ixor hx hb hdg ?_
      have hz_ := o32_of (fun a b => a ^^^ b) x y
      rw [show Int32.ofInt x ^^^ Int32.ofInt y = Int32.ofInt (xxor x y) from hz_.symm]
      exact kk _ _ _ ⟨hP, hS, hσ, hl, hn, hol, ok_cons (o32_in _ _ _) (ok_tl (ok_tl hos))⟩
  case ishl =>
    have hlen := Nat.eq_of_beq_eq_true hok
    subst hlen
    dsimp only [xstepI] at hst
    split at hst
    case h_2 => exact nomatch hst
    case h_1 y x st2 =>
      cases hst
      refine lv_ishl hx hb hdg ?_
      have hz_ := o32_of (fun a b => a <<< (b &&& 31)) x y
      rw [show Int32.ofInt x <<< (Int32.ofInt y &&& 31) = Int32.ofInt (xshl x y) from hz_.symm]
      exact kk _ _ _ ⟨hP, hS, hσ, hl, hn, hol, ok_cons (o32_in _ _ _) (ok_tl (ok_tl hos))⟩
  case ishr =>
    have hlen := Nat.eq_of_beq_eq_true hok
    subst hlen
    dsimp only [xstepI] at hst
    split at hst
    case h_2 => exact nomatch hst
    case h_1 y x st2 =>
      cases hst
      refine lv_ishr hx hb hdg ?_
      have hz_ := o32_of (fun a b => a >>> (b &&& 31)) x y
      rw [show Int32.ofInt x >>> (Int32.ofInt y &&& 31) = Int32.ofInt (xshr x y) from hz_.symm]
      exact kk _ _ _ ⟨hP, hS, hσ, hl, hn, hol, ok_cons (o32_in _ _ _) (ok_tl (ok_tl hos))⟩
  case iushr =>
    have hlen := Nat.eq_of_beq_eq_true hok
    subst hlen
    dsimp only [xstepI] at hst
    split at hst
    case h_2 => exact nomatch hst
    case h_1 y x st2 =>
      cases hst
      refine lv_iushr (v := Int32.ofInt (xushr x y)) hx hb hdg ?_ (kk _ _ _ ⟨hP, hS, hσ, hl, hn, hol, ok_cons (o32_in _ _ _) (ok_tl (ok_tl hos))⟩)
      exact (Int32.ofInt_toInt _).symm
  case land =>
    have hlen := Nat.eq_of_beq_eq_true hok
    subst hlen
    dsimp only [xstepI] at hst
    split at hst
    case h_2 => exact nomatch hst
    case h_1 y x st2 =>
      cases hst
      refine lv_land hx hb hdg ?_
      rw [show Int64.ofInt x &&& Int64.ofInt y = Int64.ofInt (xland x y) from (o64_of _ x y).symm]
      exact kk _ _ _ ⟨hP, hS, hσ, hl, hn, hol, ok_cons (o64_in _ _ _) (ok_tl (ok_tl hos))⟩
  case lshl =>
    have hlen := Nat.eq_of_beq_eq_true hok
    subst hlen
    dsimp only [xstepI] at hst
    split at hst
    case h_2 => exact nomatch hst
    case h_1 y x st2 =>
      cases hst
      exact lv_lshl (v := Int64.ofInt (xlshl x y)) hx hb hdg (n_shl x y).symm (kk _ _ _ ⟨hP, hS, hσ, hl, hn, hol, ok_cons (i64_in _) (ok_tl (ok_tl hos))⟩)
  case lshr =>
    have hlen := Nat.eq_of_beq_eq_true hok
    subst hlen
    dsimp only [xstepI] at hst
    split at hst
    case h_2 => exact nomatch hst
    case h_1 y x st2 =>
      cases hst
      exact lv_lshr (v := Int64.ofInt (xlshr x y)) hx hb hdg (n_shr x y).symm (kk _ _ _ ⟨hP, hS, hσ, hl, hn, hol, ok_cons (i64_in _) (ok_tl (ok_tl hos))⟩)
  case idiv =>
    have hlen := Nat.eq_of_beq_eq_true hok
    subst hlen
    dsimp only [xstepI] at hst
    split at hst
    case h_2 => exact nomatch hst
    case h_1 y x st2 =>
      obtain ⟨hg_, rfl⟩ := Prod.mk.inj (Option.some.inj hst)
      have hy0_ : ¬ y = 0 := by simpa using hg_
      have hxi_ : in32 x := ok_hd (ok_tl hos)
      have hyi_ : in32 y := ok_hd hos
      refine lv_idiv hx hb hdg (by rw [n_zero, i32_eq hyi_ n_in0]; exact hy0_) ?_
      rw [← n_div32 hxi_ hyi_]
      exact kk _ _ _ ⟨hP, hS, hσ, hl, hn, hol, ok_cons (w32_in _) (ok_tl (ok_tl hos))⟩
  case irem =>
    have hlen := Nat.eq_of_beq_eq_true hok
    subst hlen
    dsimp only [xstepI] at hst
    split at hst
    case h_2 => exact nomatch hst
    case h_1 y x st2 =>
      obtain ⟨hg_, rfl⟩ := Prod.mk.inj (Option.some.inj hst)
      have hy0_ : ¬ y = 0 := by simpa using hg_
      have hxi_ : in32 x := ok_hd (ok_tl hos)
      have hyi_ : in32 y := ok_hd hos
      refine lv_irem hx hb hdg (by rw [n_zero, i32_eq hyi_ n_in0]; exact hy0_) ?_
      rw [← n_rem32 hxi_ hyi_]
      exact kk _ _ _ ⟨hP, hS, hσ, hl, hn, hol, ok_cons (w32_in _) (ok_tl (ok_tl hos))⟩
  case ldiv =>
    have hlen := Nat.eq_of_beq_eq_true hok
    subst hlen
    dsimp only [xstepI] at hst
    split at hst
    case h_2 => exact nomatch hst
    case h_1 y x st2 =>
      obtain ⟨hg_, rfl⟩ := Prod.mk.inj (Option.some.inj hst)
      have hy0_ : ¬ y = 0 := by simpa using hg_
      have hxi_ : in64 x := ok_hd (ok_tl hos)
      have hyi_ : in64 y := ok_hd hos
      refine lv_ldiv hx hb hdg (by rw [n_zero64, i64_eq hyi_ n_in064]; exact hy0_) ?_
      rw [← n_div64 hxi_ hyi_]
      exact kk _ _ _ ⟨hP, hS, hσ, hl, hn, hol, ok_cons (w64_in _) (ok_tl (ok_tl hos))⟩
  case lrem =>
    have hlen := Nat.eq_of_beq_eq_true hok
    subst hlen
    dsimp only [xstepI] at hst
    split at hst
    case h_2 => exact nomatch hst
    case h_1 y x st2 =>
      obtain ⟨hg_, rfl⟩ := Prod.mk.inj (Option.some.inj hst)
      have hy0_ : ¬ y = 0 := by simpa using hg_
      have hxi_ : in64 x := ok_hd (ok_tl hos)
      have hyi_ : in64 y := ok_hd hos
      refine lv_lrem hx hb hdg (by rw [n_zero64, i64_eq hyi_ n_in064]; exact hy0_) ?_
      rw [← n_rem64 hxi_ hyi_]
      exact kk _ _ _ ⟨hP, hS, hσ, hl, hn, hol, ok_cons (w64_in _) (ok_tl (ok_tl hos))⟩
  case lneg =>
    have hlen := Nat.eq_of_beq_eq_true hok
    subst hlen
    dsimp only [xstepI] at hst
    split at hst
    case h_2 => exact nomatch hst
    case h_1 x st2 =>
      cases hst
      refine lv_lneg hx hb hdg ?_
      rw [← n_neg64]
      exact kk _ _ _ ⟨hP, hS, hσ, hl, hn, hol, ok_cons (w64_in _) (ok_tl hos)⟩
  case lcmp =>
    have hlen := Nat.eq_of_beq_eq_true hok
    subst hlen
    dsimp only [xstepI] at hst
    split at hst
    case h_2 => exact nomatch hst
    case h_1 y x st2 =>
      cases hst
      refine W.lcmp hx hb hdg ?_
      rw [n_cmp (ok_hd (ok_tl hos)) (ok_hd hos)]
      refine kk _ _ _ ⟨hP, hS, hσ, hl, hn, hol, ok_cons ?_ (ok_tl (ok_tl hos))⟩
      show in32 (xlc x y)
      unfold xlc in32
      split
      · omega
      · split <;> omega
  case i2l =>
    have hlen := Nat.eq_of_beq_eq_true hok
    subst hlen
    dsimp only [xstepI] at hst
    split at hst
    case h_2 => exact nomatch hst
    case h_1 x st2 =>
      cases hst
      have hxi_ : in32 x := ok_hd hos
      exact lv_i2l hx hb hdg (n_i2l hxi_) (kk _ _ _ ⟨hP, hS, hσ, hl, hn, hol, ok_cons ⟨by have := hxi_.1; omega, by have := hxi_.2; omega⟩ (ok_tl hos)⟩)
  case l2i =>
    have hlen := Nat.eq_of_beq_eq_true hok
    subst hlen
    dsimp only [xstepI] at hst
    split at hst
    case h_2 => exact nomatch hst
    case h_1 x st2 =>
      cases hst
      exact lv_l2i hx hb hdg n_l2i (kk _ _ _ ⟨hP, hS, hσ, hl, hn, hol, ok_cons (w32_in _) (ok_tl hos)⟩)
  case i2b =>
    have hlen := Nat.eq_of_beq_eq_true hok
    subst hlen
    dsimp only [xstepI] at hst
    split at hst
    case h_2 => exact nomatch hst
    case h_1 x st2 =>
      cases hst
      exact lv_i2b hx hb hdg n_i2b (kk _ _ _ ⟨hP, hS, hσ, hl, hn, hol, ok_cons (w8_in _) (ok_tl hos)⟩)
  case dup =>
    have hlen := Nat.eq_of_beq_eq_true hok
    subst hlen
    dsimp only [xstepI] at hst
    split at hst
    case h_2 => exact nomatch hst
    case h_1 v st2 =>
      cases hlv_ : isL v with
      | true =>
        rw [hlv_] at hst
        cases hst
      | false =>
        rw [hlv_] at hst
        cases hst
        exact lv_dup hx hb hdg (by rw [emb_cat, xcat, hlv_]; rfl) (kk _ _ _ ⟨hP, hS, hσ, hl, hn, hol, ok_cons (ok_hd hos) hos⟩)
  case pop =>
    have hlen := Nat.eq_of_beq_eq_true hok
    subst hlen
    dsimp only [xstepI] at hst
    split at hst
    case h_2 => exact nomatch hst
    case h_1 v st2 =>
      cases hlv_ : isL v with
      | true =>
        rw [hlv_] at hst
        cases hst
      | false =>
        rw [hlv_] at hst
        cases hst
        exact lv_pop hx hb hdg (by rw [emb_cat, xcat, hlv_]; rfl) (kk _ _ _ ⟨hP, hS, hσ, hl, hn, hol, ok_tl hos⟩)
  case dup2 =>
    have hlen := Nat.eq_of_beq_eq_true hok
    subst hlen
    dsimp only [xstepI] at hst
    split at hst
    case h_3 => exact nomatch hst
    case h_1 x st2 =>
      cases hst
      exact lv_dup2_2 hx hb hdg rfl (kk _ _ _ ⟨hP, hS, hσ, hl, hn, hol, ok_cons (ok_hd hos) hos⟩)
    case h_2 v w st2 _ =>
      cases hlv_ : isL v with
      | true =>
        rw [hlv_] at hst
        cases hst
      | false =>
        cases hlw_ : isL w with
        | true =>
          rw [hlv_, hlw_] at hst
          cases hst
        | false =>
          rw [hlv_, hlw_] at hst
          cases hst
          exact lv_dup2_11 hx hb hdg (by rw [emb_cat, xcat, hlv_]; rfl) (by rw [emb_cat, xcat, hlw_]; rfl) (kk _ _ _ ⟨hP, hS, hσ, hl, hn, hol, ok_cons (ok_hd hos) (ok_cons (ok_hd (ok_tl hos)) hos)⟩)
  case goto off =>
    simp only [okI, Bool.and_eq_true] at hok
    obtain ⟨hl1_, hr_⟩ := hok
    have hlen := Nat.eq_of_beq_eq_true hl1_
    subst hlen
    cases hst
    exact lv_goto hx hb hdg (tg_ok hr_) (kk _ _ _ ⟨hP, hS, hσ, hl, hn, hol, hos⟩)
  case ifCond cnd off =>
    simp only [okI, Bool.and_eq_true] at hok
    obtain ⟨hl1_, hr_⟩ := hok
    have hlen := Nat.eq_of_beq_eq_true hl1_
    subst hlen
    dsimp only [xstepI] at hst
    split at hst
    case h_2 => exact nomatch hst
    case h_1 x st2 =>
      have hxi_ : in32 x := ok_hd hos
      have hq0_ : (0 : Int32).toInt = 0 := rfl
      cases cnd with
      | eq =>
        cases hst
        refine lv_if_eq hx hb hdg (tg_ok hr_) (fun hc_ => ?_) (fun hc_ => ?_)
        · rw [if_pos (by simp only [← Int32.toInt_inj, Int32.lt_iff_toInt_lt, Int32.le_iff_toInt_le, ge_iff_le, gt_iff_lt, i32_of hxi_, hq0_] at hc_; omega)] at kk
          exact kk _ _ _ ⟨hP, hS, hσ, hl, hn, hol, ok_tl hos⟩
        · rw [if_neg (by simp only [← Int32.toInt_inj, Int32.lt_iff_toInt_lt, Int32.le_iff_toInt_le, ge_iff_le, gt_iff_lt, i32_of hxi_, hq0_] at hc_; omega)] at kk
          exact kk _ _ _ ⟨hP, hS, hσ, hl, hn, hol, ok_tl hos⟩
      | ne =>
        cases hst
        refine lv_if_ne hx hb hdg (tg_ok hr_) (fun hc_ => ?_) (fun hc_ => ?_)
        · rw [if_neg (by simp only [← Int32.toInt_inj, Int32.lt_iff_toInt_lt, Int32.le_iff_toInt_le, ge_iff_le, gt_iff_lt, i32_of hxi_, hq0_] at hc_; omega)] at kk
          exact kk _ _ _ ⟨hP, hS, hσ, hl, hn, hol, ok_tl hos⟩
        · rw [if_pos (by simp only [← Int32.toInt_inj, Int32.lt_iff_toInt_lt, Int32.le_iff_toInt_le, ge_iff_le, gt_iff_lt, i32_of hxi_, hq0_] at hc_; omega)] at kk
          exact kk _ _ _ ⟨hP, hS, hσ, hl, hn, hol, ok_tl hos⟩
      | lt =>
        cases hst
        refine lv_if_lt hx hb hdg (tg_ok hr_) (fun hc_ => ?_) (fun hc_ => ?_)
        · rw [if_pos (by simp only [← Int32.toInt_inj, Int32.lt_iff_toInt_lt, Int32.le_iff_toInt_le, ge_iff_le, gt_iff_lt, i32_of hxi_, hq0_] at hc_; omega)] at kk
          exact kk _ _ _ ⟨hP, hS, hσ, hl, hn, hol, ok_tl hos⟩
        · rw [if_neg (by simp only [← Int32.toInt_inj, Int32.lt_iff_toInt_lt, Int32.le_iff_toInt_le, ge_iff_le, gt_iff_lt, i32_of hxi_, hq0_] at hc_; omega)] at kk
          exact kk _ _ _ ⟨hP, hS, hσ, hl, hn, hol, ok_tl hos⟩
      | ge =>
        cases hst
        refine lv_if_ge hx hb hdg (tg_ok hr_) (fun hc_ => ?_) (fun hc_ => ?_)
        · rw [if_neg (by simp only [← Int32.toInt_inj, Int32.lt_iff_toInt_lt, Int32.le_iff_toInt_le, ge_iff_le, gt_iff_lt, i32_of hxi_, hq0_] at hc_; omega)] at kk
          exact kk _ _ _ ⟨hP, hS, hσ, hl, hn, hol, ok_tl hos⟩
        · rw [if_pos (by simp only [← Int32.toInt_inj, Int32.lt_iff_toInt_lt, Int32.le_iff_toInt_le, ge_iff_le, gt_iff_lt, i32_of hxi_, hq0_] at hc_; omega)] at kk
          exact kk _ _ _ ⟨hP, hS, hσ, hl, hn, hol, ok_tl hos⟩
      | gt =>
        cases hst
        refine lv_if_gt hx hb hdg (tg_ok hr_) (fun hc_ => ?_) (fun hc_ => ?_)
        · rw [if_pos (by simp only [← Int32.toInt_inj, Int32.lt_iff_toInt_lt, Int32.le_iff_toInt_le, ge_iff_le, gt_iff_lt, i32_of hxi_, hq0_] at hc_; omega)] at kk
          exact kk _ _ _ ⟨hP, hS, hσ, hl, hn, hol, ok_tl hos⟩
        · rw [if_neg (by simp only [← Int32.toInt_inj, Int32.lt_iff_toInt_lt, Int32.le_iff_toInt_le, ge_iff_le, gt_iff_lt, i32_of hxi_, hq0_] at hc_; omega)] at kk
          exact kk _ _ _ ⟨hP, hS, hσ, hl, hn, hol, ok_tl hos⟩
      | le =>
        cases hst
        refine lv_if_le hx hb hdg (tg_ok hr_) (fun hc_ => ?_) (fun hc_ => ?_)
        · rw [if_neg (by simp only [← Int32.toInt_inj, Int32.lt_iff_toInt_lt, Int32.le_iff_toInt_le, ge_iff_le, gt_iff_lt, i32_of hxi_, hq0_] at hc_; omega)] at kk
          exact kk _ _ _ ⟨hP, hS, hσ, hl, hn, hol, ok_tl hos⟩
        · rw [if_pos (by simp only [← Int32.toInt_inj, Int32.lt_iff_toInt_lt, Int32.le_iff_toInt_le, ge_iff_le, gt_iff_lt, i32_of hxi_, hq0_] at hc_; omega)] at kk
          exact kk _ _ _ ⟨hP, hS, hσ, hl, hn, hol, ok_tl hos⟩
  case if_icmp cnd off =>
    simp only [okI, Bool.and_eq_true] at hok
    obtain ⟨hl1_, hr_⟩ := hok
    have hlen := Nat.eq_of_beq_eq_true hl1_
    subst hlen
    dsimp only [xstepI] at hst
    split at hst
    case h_2 => exact nomatch hst
    case h_1 y x st2 =>
      have hyi_ : in32 y := ok_hd hos
      have hxi_ : in32 x := ok_hd (ok_tl hos)
      cases cnd with
      | eq =>
        cases hst
        refine lv_icmp_eq hx hb hdg (tg_ok hr_) (fun hc_ => ?_) (fun hc_ => ?_)
        · rw [if_pos (by simp only [← Int32.toInt_inj, Int32.lt_iff_toInt_lt, Int32.le_iff_toInt_le, ge_iff_le, gt_iff_lt, i32_of hxi_, i32_of hyi_] at hc_; omega)] at kk
          exact kk _ _ _ ⟨hP, hS, hσ, hl, hn, hol, ok_tl (ok_tl hos)⟩
        · rw [if_neg (by simp only [← Int32.toInt_inj, Int32.lt_iff_toInt_lt, Int32.le_iff_toInt_le, ge_iff_le, gt_iff_lt, i32_of hxi_, i32_of hyi_] at hc_; omega)] at kk
          exact kk _ _ _ ⟨hP, hS, hσ, hl, hn, hol, ok_tl (ok_tl hos)⟩
      | ne =>
        cases hst
        refine lv_icmp_ne hx hb hdg (tg_ok hr_) (fun hc_ => ?_) (fun hc_ => ?_)
        · rw [if_neg (by simp only [← Int32.toInt_inj, Int32.lt_iff_toInt_lt, Int32.le_iff_toInt_le, ge_iff_le, gt_iff_lt, i32_of hxi_, i32_of hyi_] at hc_; omega)] at kk
          exact kk _ _ _ ⟨hP, hS, hσ, hl, hn, hol, ok_tl (ok_tl hos)⟩
        · rw [if_pos (by simp only [← Int32.toInt_inj, Int32.lt_iff_toInt_lt, Int32.le_iff_toInt_le, ge_iff_le, gt_iff_lt, i32_of hxi_, i32_of hyi_] at hc_; omega)] at kk
          exact kk _ _ _ ⟨hP, hS, hσ, hl, hn, hol, ok_tl (ok_tl hos)⟩
      | lt =>
        cases hst
        refine lv_icmp_lt hx hb hdg (tg_ok hr_) (fun hc_ => ?_) (fun hc_ => ?_)
        · rw [if_pos (by simp only [← Int32.toInt_inj, Int32.lt_iff_toInt_lt, Int32.le_iff_toInt_le, ge_iff_le, gt_iff_lt, i32_of hxi_, i32_of hyi_] at hc_; omega)] at kk
          exact kk _ _ _ ⟨hP, hS, hσ, hl, hn, hol, ok_tl (ok_tl hos)⟩
        · rw [if_neg (by simp only [← Int32.toInt_inj, Int32.lt_iff_toInt_lt, Int32.le_iff_toInt_le, ge_iff_le, gt_iff_lt, i32_of hxi_, i32_of hyi_] at hc_; omega)] at kk
          exact kk _ _ _ ⟨hP, hS, hσ, hl, hn, hol, ok_tl (ok_tl hos)⟩
      | ge =>
        cases hst
        refine lv_icmp_ge hx hb hdg (tg_ok hr_) (fun hc_ => ?_) (fun hc_ => ?_)
        · rw [if_neg (by simp only [← Int32.toInt_inj, Int32.lt_iff_toInt_lt, Int32.le_iff_toInt_le, ge_iff_le, gt_iff_lt, i32_of hxi_, i32_of hyi_] at hc_; omega)] at kk
          exact kk _ _ _ ⟨hP, hS, hσ, hl, hn, hol, ok_tl (ok_tl hos)⟩
        · rw [if_pos (by simp only [← Int32.toInt_inj, Int32.lt_iff_toInt_lt, Int32.le_iff_toInt_le, ge_iff_le, gt_iff_lt, i32_of hxi_, i32_of hyi_] at hc_; omega)] at kk
          exact kk _ _ _ ⟨hP, hS, hσ, hl, hn, hol, ok_tl (ok_tl hos)⟩
      | gt =>
        cases hst
        refine lv_icmp_gt hx hb hdg (tg_ok hr_) (fun hc_ => ?_) (fun hc_ => ?_)
        · rw [if_pos (by simp only [← Int32.toInt_inj, Int32.lt_iff_toInt_lt, Int32.le_iff_toInt_le, ge_iff_le, gt_iff_lt, i32_of hxi_, i32_of hyi_] at hc_; omega)] at kk
          exact kk _ _ _ ⟨hP, hS, hσ, hl, hn, hol, ok_tl (ok_tl hos)⟩
        · rw [if_neg (by simp only [← Int32.toInt_inj, Int32.lt_iff_toInt_lt, Int32.le_iff_toInt_le, ge_iff_le, gt_iff_lt, i32_of hxi_, i32_of hyi_] at hc_; omega)] at kk
          exact kk _ _ _ ⟨hP, hS, hσ, hl, hn, hol, ok_tl (ok_tl hos)⟩
      | le =>
        cases hst
        refine lv_icmp_le hx hb hdg (tg_ok hr_) (fun hc_ => ?_) (fun hc_ => ?_)
        · rw [if_neg (by simp only [← Int32.toInt_inj, Int32.lt_iff_toInt_lt, Int32.le_iff_toInt_le, ge_iff_le, gt_iff_lt, i32_of hxi_, i32_of hyi_] at hc_; omega)] at kk
          exact kk _ _ _ ⟨hP, hS, hσ, hl, hn, hol, ok_tl (ok_tl hos)⟩
        · rw [if_pos (by simp only [← Int32.toInt_inj, Int32.lt_iff_toInt_lt, Int32.le_iff_toInt_le, ge_iff_le, gt_iff_lt, i32_of hxi_, i32_of hyi_] at hc_; omega)] at kk
          exact kk _ _ _ ⟨hP, hS, hσ, hl, hn, hol, ok_tl (ok_tl hos)⟩
  case ifnull off =>
    simp only [okI, Bool.and_eq_true] at hok
    obtain ⟨hl1_, hr_⟩ := hok
    have hlen := Nat.eq_of_beq_eq_true hl1_
    subst hlen
    dsimp only [xstepI] at hst
    split at hst
    case h_3 => exact nomatch hst
    case h_1 st2 =>
      cases hst
      exact lv_ifnullN hx hb hdg (tg_ok hr_) (kk _ _ _ ⟨hP, hS, hσ, hl, hn, hol, ok_tl hos⟩)
    case h_2 a st2 =>
      cases hst
      exact lv_ifnull hx hb hdg (kk _ _ _ ⟨hP, hS, hσ, hl, hn, hol, ok_tl hos⟩)
  case ifnonnull off =>
    simp only [okI, Bool.and_eq_true] at hok
    obtain ⟨hl1_, hr_⟩ := hok
    have hlen := Nat.eq_of_beq_eq_true hl1_
    subst hlen
    dsimp only [xstepI] at hst
    split at hst
    case h_3 => exact nomatch hst
    case h_1 st2 =>
      cases hst
      exact lv_ifnonnullN hx hb hdg (kk _ _ _ ⟨hP, hS, hσ, hl, hn, hol, ok_tl hos⟩)
    case h_2 a st2 =>
      cases hst
      exact lv_ifnonnull hx hb hdg (tg_ok hr_) (kk _ _ _ ⟨hP, hS, hσ, hl, hn, hol, ok_tl hos⟩)
  case tableswitch d lo hi offs =>
    dsimp only [xstepI] at hst
    split at hst
    case h_2 => exact nomatch hst
    case h_1 x st2 =>
      cases hst
      have hxi_ : in32 x := ok_hd hos
      have hok2_ : okT pc d = true ∧ offs.toList.all (okT pc) = true ∧ hi = lo + offs.toList.length - 1 ∧ 0 ≤ lo ∧ lo ≤ 3 ∧ offs.toList.length < 100 := by
        simp only [okI, Bool.or_eq_true, Bool.and_eq_true, decide_eq_true_eq] at hok
        rcases hok with ⟨⟨h1_, h2_⟩, h3_, h4_, h5_⟩ | ⟨⟨h1_, h2_⟩, h3_, h4_, h5_⟩
        · exact ⟨h1_, h2_, h3_, by omega, by omega, h5_⟩
        · exact ⟨h1_, h2_, h3_, by omega, by omega, h5_⟩
      obtain ⟨hd_, ha_, hhi_, hlo_, hlo2_, hln_⟩ := hok2_
      have key : ∀ (os : List Int) (k : Int), (∀ j : Nat, j < os.length → offs.toList[(k - lo).toNat + j]? = os[j]?) → (k - lo).toNat + os.length = offs.toList.length → lo ≤ k → (x < lo ∨ k ≤ x) → WS p l e R s m args below meth c cells slots Q cs ρ dC dI A H0 nL (xtab pc ls st2 σ x d k os) → W p l e R s m args below meth c H locs cells slots Q (F0 m pc real (.int (Int32.ofInt x) :: st2.map (emb ρ))) := by
        intro os
        induction os with
        | nil =>
          intro k h1_ h2_ h3_ h4_ kk_
          refine lv_tableOut hx hb hdg ?_ (tg_ok hd_) (kk_ _ _ _ ⟨hP, hS, hσ, hl, hn, hol, ok_tl hos⟩)
          rw [i32_of hxi_]
          simp only [List.length_nil, Nat.add_zero] at h2_
          omega
        | cons o os ih =>
          intro k h1_ h2_ h3_ h4_ kk_
          unfold xtab at kk_
          by_cases hxk_ : x = k
          · rw [if_pos hxk_] at kk_
            have h5_ := h1_ 0 (by simp)
            simp only [List.getElem?_cons_zero, Nat.add_zero] at h5_
            have hot_ : okT pc o = true := List.all_eq_true.mp ha_ o (List.mem_of_getElem? h5_)
            simp only [List.length_cons] at h2_
            refine lv_tableIn (off := o) hx hb hdg ?_ ?_ ?_ (tg_ok hot_) (kk_ _ _ _ ⟨hP, hS, hσ, hl, hn, hol, ok_tl hos⟩)
            · rw [i32_of hxi_]
              omega
            · rw [i32_of hxi_]
              omega
            · rw [i32_of hxi_, hxk_, ← Array.getElem?_toList]
              exact h5_
          · rw [if_neg hxk_] at kk_
            simp only [List.length_cons] at h2_
            refine ih (k + 1) (fun j hj_ => ?_) (by omega) (by omega) (by omega) kk_
            have h5_ := h1_ (j + 1) (by simp; omega)
            simp only [List.getElem?_cons_succ] at h5_
            rw [← h5_]
            congr 1
            omega
      exact key offs.toList lo (fun j _ => by simp) (by simp) (Int.le_refl _) (by omega) kk
  case lookupswitch d ps =>
    dsimp only [xstepI] at hst
    split at hst
    case h_2 => exact nomatch hst
    case h_1 x st2 =>
      cases hst
      have hxi_ : in32 x := ok_hd hos
      simp only [okI, Bool.and_eq_true] at hok
      obtain ⟨⟨hd_, ha_⟩, hp_⟩ := hok
      have key : ∀ (os : List (Int × Int)), (∀ q ∈ os, okT pc q.2 = true) → WS p l e R s m args below meth c cells slots Q cs ρ dC dI A H0 nL (xlook pc ls st2 σ x d os) → ∃ off tgt, Op.lookupswitch.offset os d x = off ∧ (pc : Int) + off = (tgt : Nat) ∧ W p l e R s m args below meth c H locs cells slots Q (F0 m tgt real (st2.map (emb ρ))) := by
        intro os
        induction os with
        | nil =>
          intro h1_ kk_
          exact ⟨d, tg pc d, rfl, tg_ok hd_, kk_ _ _ _ ⟨hP, hS, hσ, hl, hn, hol, ok_tl hos⟩⟩
        | cons o os ih =>
          intro h1_ kk_
          obtain ⟨k_, o_⟩ := o
          unfold xlook at kk_
          by_cases hxk_ : x = k_
          · rw [if_pos hxk_] at kk_
            refine ⟨o_, tg pc o_, ?_, tg_ok (h1_ (k_, o_) List.mem_cons_self), kk_ _ _ _ ⟨hP, hS, hσ, hl, hn, hol, ok_tl hos⟩⟩
            simp [Op.lookupswitch.offset, hxk_]
          · rw [if_neg hxk_] at kk_
            obtain ⟨off, tgt, h2_, h3_, h4_⟩ := ih (fun q hq => h1_ q (List.mem_cons_of_mem _ hq)) kk_
            refine ⟨off, tgt, ?_, h3_, h4_⟩
            rw [← h2_]
            simp [Op.lookupswitch.offset, Ne.symm hxk_]
      obtain ⟨off, tgt, h2_, h3_, h4_⟩ := key ps.toList (fun q hq => List.all_eq_true.mp ha_ q hq) kk
      exact lv_lookup hx hb hdg hp_ (by rw [i32_of hxi_]; exact h2_) h3_ h4_
  case getfield i =>
    have hlen := Nat.eq_of_beq_eq_true hok
    subst hlen
    dsimp only [xstepI] at hst
    split at hst
    case h_2 => exact nomatch hst
    case h_1 a st2 =>
      split at hst
      case h_2 => exact nomatch hst
      case h_1 ci k hf_ =>
        cases hbq_ : Nat.beq (lay a).1 ci with
        | false =>
          rw [hbq_] at hst
          cases hst
        | true =>
          rw [hbq_] at hst
          cases hst
          have hlc_ : (lay a).1 = ci := Nat.eq_of_beq_eq_true hbq_
          obtain ⟨hci_, hk_, nest, hw_⟩ := fld_ok hf_
          have hxa_ : a < xNA := lay_lt (by omega)
          have hcell_ := wd_at cs ρ σ hxa_
          rw [cellE_obj cs ρ σ (by omega), hlc_] at hcell_
          have hkn_ := kk _ _ _ ⟨hP, hS, hσ, hl, hn, hol, ok_cons (by rw [← hlc_]; exact fval_ok (by omega) hσ) (ok_tl hos)⟩
          have hfk_ := (fk_ok ci hci_ k hk_).2
          cases hnb_ : Nat.beq nest 0 with
          | true =>
            unfold fw at hw_
            rw [hnb_] at hw_
            exact va_get (D := (dC, dI)) (ci := ci) (C := cnm ci) (T := TT ci) (N := nf ci) hx hb hts (uw_in ci hci_) hown hK hP a hcell_ (cl_at ci hci_) k hk_ (hts _ (GW_of hw_ rfl)) (fq_same hfk_) (hv_at hk_) hdg hkn_
          | false =>
            unfold fw at hw_
            rw [hnb_] at hw_
            exact va_getN (D := (dC, dI)) (ci := ci) (C := cnm ci) (T := TT ci) (N := nf ci) hx hb hts (uw_in ci hci_) hown hK hP a hcell_ (cl_at ci hci_) k hk_ (va_Nw.use rfl (hnw _ hw_ rfl)) (fq_same hfk_) (hv_at hk_) hdg hkn_
  case putfield i =>
    have hlen := Nat.eq_of_beq_eq_true hok
    subst hlen
    dsimp only [xstepI] at hst
    split at hst
    case h_2 => exact nomatch hst
    case h_1 v a st2 =>
      split at hst
      case h_2 => exact nomatch hst
      case h_1 ci k hf_ =>
        cases hbq_ : Nat.beq (lay a).1 ci with
        | false =>
          rw [hbq_] at hst
          cases hst
        | true =>
          rw [hbq_] at hst
          dsimp only [cond_true] at hst
          split at hst
          case h_2 => exact nomatch hst
          case h_1 x hfp_ =>
          cases hst
          have hlc_ : (lay a).1 = ci := Nat.eq_of_beq_eq_true hbq_
          obtain ⟨hci_, hk_, nest, hw_⟩ := fld_ok hf_
          have hxa_ : a < xNA := lay_lt (by omega)
          have hcell_ := wd_at cs ρ σ hxa_
          rw [cellE_obj cs ρ σ (by omega), hlc_] at hcell_
          obtain ⟨hfk1_, hfk_⟩ := fk_ok ci hci_ k hk_
          have hvo_ : okV v := ok_hd hos
          have hput_ : (∃ ty, parseFieldDescriptor (TT ci k).2.2.1 = some ty ∧ narrow ty (emb ρ v) = emb ρ v ∧ fits ty (emb ρ v) = true) ∧ (TT ci k).2.2.2 = false ∧ (if isLg a k = true then in64 x else in32 x) := by
            have hlg_ : isLg a k = Nat.beq (fty ci k) 1 := by rw [lg_fld (by omega), hlc_]
            rw [hlg_]
            rcases hfk1_ with ⟨f0_, f1_, f2_⟩ | ⟨f0_, f1_, f2_⟩ | ⟨f0_, f1_, f2_⟩ | f0_
            · unfold fput at hfp_
              rw [f0_] at hfp_ ⊢
              rcases v with y | y | y
              · cases hfp_
                exact ⟨⟨.int, by rw [fTy_ok ci hci_ k hk_, f1_], rfl, rfl⟩, f2_, hvo_⟩
              · cases hfp_
              · cases hfp_
            · unfold fput at hfp_
              rw [f0_] at hfp_ ⊢
              rcases v with y | y | y
              · cases hfp_
              · cases hfp_
                exact ⟨⟨.long, by rw [fTy_ok ci hci_ k hk_, f1_], rfl, rfl⟩, f2_, hvo_⟩
              · cases hfp_
            · unfold fput at hfp_
              rw [f0_] at hfp_ ⊢
              rcases v with y | y | y
              · cases hzz_ : (decide (y = 0) || decide (y = 1)) with
                | false =>
                  simp only [hzz_] at hfp_
                  cases hfp_
                | true =>
                  simp only [hzz_] at hfp_
                  cases hfp_
                  have hy_ : x = 0 ∨ x = 1 := by simpa using hzz_
                  refine ⟨⟨.boolean, by rw [fTy_ok ci hci_ k hk_, f1_], ?_, ?_⟩, f2_, hvo_⟩
                  · rcases hy_ with rfl | rfl <;> rfl
                  · rcases hy_ with rfl | rfl <;> rfl
              · cases hfp_
              · cases hfp_
            · unfold fput at hfp_
              rw [f0_] at hfp_
              cases hfp_
          obtain ⟨⟨ty, ht1_, ht2_, ht3_⟩, hfin_, hrg_⟩ := hput_
          have hfin2_ : ∀ (H1 : Heap) (locs1 : List Loc), va_P (dC, dI) vwCl ((wd cs ρ σ).set a (ρ a, .inr (ci, ((List.range (nf ci)).map (fun j => emb ρ (fval ci j a σ))).set k (emb ρ v)))) H1 → va_D A ((wd cs ρ σ).set a (ρ a, .inr (ci, ((List.range (nf ci)).map (fun j => emb ρ (fval ci j a σ))).set k (emb ρ v)))) → va_S A H0 H1 locs1 → W p l e R s m args below meth c H1 locs1 cells slots Q (F0 m (pc + 3) real (st2.map (emb ρ))) := by
            intro H1 locs1 hP1_ _ hS1_
            have hce_ := cellE_put cs ρ σ (k := k) (by omega : (lay a).1 < 13) (by rw [hlc_]; exact hfp_)
            rw [hlc_] at hce_
            rw [wd_set cs ρ σ hxa_ hce_] at hP1_
            exact kk _ _ _ ⟨hP1_, hS1_, InR_up hσ hrg_, hl, hn, hol, ok_tl (ok_tl hos)⟩
          cases hnb_ : Nat.beq nest 0 with
          | true =>
            unfold fw at hw_
            rw [hnb_] at hw_
            exact va_put (D := (dC, dI)) (ci := ci) (C := cnm ci) (T := TT ci) (N := nf ci) hx hb hts (uw_in ci hci_) (fTy ci) (fTy_ok ci hci_) (fNm_ok ci hci_) hown hK hP hD hS a hcell_ (cl_at ci hci_) k hk_ (hts _ (GW_of hw_ rfl)) (fq_same hfk_) hfin_ ht1_ ht2_ ht3_ (by simpa using hk_) hdg hfin2_
          | false =>
            unfold fw at hw_
            rw [hnb_] at hw_
            exact va_putN (D := (dC, dI)) (ci := ci) (C := cnm ci) (T := TT ci) (N := nf ci) hx hb hts (uw_in ci hci_) (fTy ci) (fTy_ok ci hci_) (fNm_ok ci hci_) hown hK hP hD hS a hcell_ (cl_at ci hci_) k hk_ (va_Nw.use rfl (hnw _ hw_ rfl)) (fq_same hfk_) hfin_ ht1_ ht2_ ht3_ (by simpa using hk_) hdg hfin2_
  case iaload =>
    have hlen := Nat.eq_of_beq_eq_true hok
    subst hlen
    dsimp only [xstepI] at hst
    split at hst
    case h_2 => exact nomatch hst
    case h_1 j a st2 =>
      cases hsq_ : Nat.beq a xscr with
      | true =>
        rw [hsq_] at hst
        dsimp only [cond_true] at hst
        split at hst
        case h_2 => exact nomatch hst
        case h_1 n f =>
          obtain ⟨hg_, rfl⟩ := Prod.mk.inj (Option.some.inj hst)
          have haq_ := Nat.eq_of_beq_eq_true hsq_
          subst haq_
          obtain ⟨xs, hX_, hbl_, hbA_, hn6_, rfl⟩ := hsc n f rfl
          obtain ⟨hv1_, hv2_, hv3_, hv4_⟩ := n_vp hn6_ hg_
          refine va_sld hx hb hX_ hbl_ hbA_ hS hv1_ hdg ?_
          rw [hv2_, ← Int32.ofInt_toInt (xs j.toNat)]
          exact kk _ _ _ ⟨hP, hS, hσ, hl, hn, hol, ok_cons (i32_in _) (ok_tl (ok_tl hos))⟩
      | false =>
        rw [hsq_] at hst
        dsimp only [cond_false] at hst
        cases hbq_ : Nat.beq (lay a).1 22 with
        | false =>
          rw [hbq_] at hst
          cases hst
        | true =>
          rw [hbq_] at hst
          obtain ⟨hg_, rfl⟩ := Prod.mk.inj (Option.some.inj hst)
          have hlc_ : (lay a).1 = 22 := Nat.eq_of_beq_eq_true hbq_
          have hxa_ : a < xNA := lay_lt (by omega)
          obtain ⟨hv1_, hv2_, hv3_, hv4_⟩ := n_vp (lay_len hxa_ (by omega)) hg_
          have hcell_ := wd_at cs ρ σ hxa_
          rw [cellE_int cs ρ σ (by omega), hlc_] at hcell_
          refine va_iald hx hb hK hP a 2 hcell_ rfl hv1_ hdg ?_
          rw [hv2_]
          exact kk _ _ _ ⟨hP, hS, hσ, hl, hn, hol, ok_cons (InR32 hσ (lg_arr (by omega) (by omega))) (ok_tl (ok_tl hos))⟩
  case baload =>
    have hlen := Nat.eq_of_beq_eq_true hok
    subst hlen
    dsimp only [xstepI] at hst
    split at hst
    case h_2 => exact nomatch hst
    case h_1 j a st2 =>
      cases hbq_ : (Nat.beq (lay a).1 20 || Nat.beq (lay a).1 21) with
      | false =>
        rw [hbq_] at hst
        cases hst
      | true =>
        rw [hbq_] at hst
        obtain ⟨hg_, rfl⟩ := Prod.mk.inj (Option.some.inj hst)
        have hlc_ : (lay a).1 = 20 ∨ (lay a).1 = 21 := by
          rcases Bool.or_eq_true_iff.mp hbq_ with z_ | z_
          · exact Or.inl (Nat.eq_of_beq_eq_true z_)
          · exact Or.inr (Nat.eq_of_beq_eq_true z_)
        have hxa_ : a < xNA := lay_lt (by omega)
        obtain ⟨hv1_, hv2_, hv3_, hv4_⟩ := n_vp (lay_len hxa_ (by omega)) hg_
        have hcell_ := wd_at cs ρ σ hxa_
        rw [cellE_int cs ρ σ (by omega)] at hcell_
        have hkn_ := kk _ _ _ ⟨hP, hS, hσ, hl, hn, hol, ok_cons (InR32 hσ (lg_arr (k := j.toNat) (by omega) (by omega))) (ok_tl (ok_tl hos))⟩
        rcases hlc_ with hlc_ | hlc_
        · rw [hlc_] at hcell_
          refine va_bald hx hb hK hP a 0 hcell_ rfl hv1_ hdg ?_
          rw [hv2_]
          exact hkn_
        · rw [hlc_] at hcell_
          refine va_zald hx hb hK hP a 1 hcell_ rfl hv1_ hdg ?_
          rw [hv2_]
          exact hkn_
  case laload =>
    have hlen := Nat.eq_of_beq_eq_true hok
    subst hlen
    dsimp only [xstepI] at hst
    split at hst
    case h_2 => exact nomatch hst
    case h_1 j a st2 =>
      cases hbq_ : Nat.beq (lay a).1 23 with
      | false =>
        rw [hbq_] at hst
        cases hst
      | true =>
        rw [hbq_] at hst
        obtain ⟨hg_, rfl⟩ := Prod.mk.inj (Option.some.inj hst)
        have hlc_ : (lay a).1 = 23 := Nat.eq_of_beq_eq_true hbq_
        have hxa_ : a < xNA := lay_lt (by omega)
        obtain ⟨hv1_, hv2_, hv3_, hv4_⟩ := n_vp (lay_len hxa_ (by omega)) hg_
        have hcell_ := wd_at cs ρ σ hxa_
        rw [cellE_long cs ρ σ (by omega)] at hcell_
        refine va_lald hx hb hK hP a 3 hcell_ rfl hv1_ hdg ?_
        rw [hv2_]
        exact kk _ _ _ ⟨hP, hS, hσ, hl, hn, hol, ok_cons (InR64 hσ (lg_arr23 (by omega))) (ok_tl (ok_tl hos))⟩
  case aaload =>
    have hlen := Nat.eq_of_beq_eq_true hok
    subst hlen
    dsimp only [xstepI] at hst
    split at hst
    case h_2 => exact nomatch hst
    case h_1 j a st2 =>
      cases hbq_ : Nat.beq (lay a).1 24 with
      | false =>
        rw [hbq_] at hst
        cases hst
      | true =>
        rw [hbq_] at hst
        obtain ⟨hg_, rfl⟩ := Prod.mk.inj (Option.some.inj hst)
        have hlc_ : (lay a).1 = 24 := Nat.eq_of_beq_eq_true hbq_
        have hxa_ : a < xNA := lay_lt (by omega)
        obtain ⟨hv1_, hv2_, hv3_, hv4_⟩ := n_vp (lay_len hxa_ (by omega)) hg_
        have hcell_ := wd_at cs ρ σ hxa_
        rw [cellE_st cs ρ σ (by omega)] at hcell_
        refine va_aldq hx hb hK hP a 4 hcell_ rfl hv1_ hdg ?_
        rw [hv2_]
        by_cases hj0_ : j = 0
        · rw [if_pos hj0_] at kk
          rw [hj0_]
          exact kk _ _ _ ⟨hP, hS, hσ, hl, hn, hol, ok_cons trivial (ok_tl (ok_tl hos))⟩
        · rw [if_neg hj0_] at kk
          have hj1_ : imref j.toNat = imref 1 := by
            have hjn_ : Nat.beq j.toNat 0 = false := Bool.eq_false_iff.mpr (fun z_ => by have := Nat.eq_of_beq_eq_true z_; omega)
            unfold imref
            rw [hjn_]
            rfl
          rw [hj1_]
          exact kk _ _ _ ⟨hP, hS, hσ, hl, hn, hol, ok_cons trivial (ok_tl (ok_tl hos))⟩
  case iastore =>
    have hlen := Nat.eq_of_beq_eq_true hok
    subst hlen
    dsimp only [xstepI] at hst
    split at hst
    case h_2 => exact nomatch hst
    case h_1 x j a st2 =>
      cases hbq_ : Nat.beq (lay a).1 22 with
      | false =>
        rw [hbq_] at hst
        cases hst
      | true =>
        rw [hbq_] at hst
        obtain ⟨hg_, rfl⟩ := Prod.mk.inj (Option.some.inj hst)
        have hlc_ : (lay a).1 = 22 := Nat.eq_of_beq_eq_true hbq_
        have hxa_ : a < xNA := lay_lt (by omega)
        obtain ⟨hv1_, hv2_, hv3_, hv4_⟩ := n_vp (lay_len hxa_ (by omega)) hg_
        have hcell_ := wd_at cs ρ σ hxa_
        rw [cellE_int cs ρ σ (by omega), hlc_] at hcell_
        refine va_iast hx hb hK hP hD hS a 2 hcell_ rfl hv1_ hdg (fun H1 locs1 hP1_ _ hS1_ => ?_)
        rw [hv2_, wd_set cs ρ σ (k := j.toNat) (v := x) hxa_ (by rw [cellE_int cs ρ _ (by omega), rowI_set, hlc_])] at hP1_
        exact kk _ _ _ ⟨hP1_, hS1_, InR_up hσ (by rw [lg_arr (by omega) (by omega)]; exact ok_hd hos), hl, hn, hol, ok_tl (ok_tl (ok_tl hos))⟩
  case bastore =>
    have hlen := Nat.eq_of_beq_eq_true hok
    subst hlen
    dsimp only [xstepI] at hst
    split at hst
    case h_2 => exact nomatch hst
    case h_1 x j a st2 =>
      cases hbq_ : Nat.beq (lay a).1 20 with
      | true =>
        rw [hbq_] at hst
        obtain ⟨hg_, rfl⟩ := Prod.mk.inj (Option.some.inj hst)
        have hlc_ : (lay a).1 = 20 := Nat.eq_of_beq_eq_true hbq_
        have hxa_ : a < xNA := lay_lt (by omega)
        obtain ⟨hv1_, hv2_, hv3_, hv4_⟩ := n_vp (lay_len hxa_ (by omega)) hg_
        have hcell_ := wd_at cs ρ σ hxa_
        rw [cellE_int cs ρ σ (by omega), hlc_] at hcell_
        refine va_bast hx hb hK hP hD hS a 0 hcell_ rfl hv1_ hdg (fun H1 locs1 hP1_ _ hS1_ => ?_)
        rw [hv2_, wd_set cs ρ σ (k := j.toNat) (v := w8 x) hxa_ (by rw [cellE_int cs ρ _ (by omega), rowI_set, hlc_, vp_nar_byte, n_i2b])] at hP1_
        exact kk _ _ _ ⟨hP1_, hS1_, InR_up hσ (by rw [lg_arr (by omega) (by omega)]; exact w8_in _), hl, hn, hol, ok_tl (ok_tl (ok_tl hos))⟩
      | false =>
        rw [hbq_] at hst
        dsimp only [cond_false] at hst
        cases hbq2_ : Nat.beq (lay a).1 21 with
        | false =>
          rw [hbq2_] at hst
          cases hst
        | true =>
          rw [hbq2_] at hst
          obtain ⟨hg_, rfl⟩ := Prod.mk.inj (Option.some.inj hst)
          have hlc_ : (lay a).1 = 21 := Nat.eq_of_beq_eq_true hbq2_
          have hxa_ : a < xNA := lay_lt (by omega)
          obtain ⟨hv1_, hv2_, hv3_, hv4_⟩ := n_vp (lay_len hxa_ (by omega)) hg_
          have hcell_ := wd_at cs ρ σ hxa_
          rw [cellE_int cs ρ σ (by omega), hlc_] at hcell_
          refine va_zast hx hb hK hP hD hS a 1 hcell_ rfl hv1_ hdg (fun H1 locs1 hP1_ _ hS1_ => ?_)
          have hnz_ : vp_nar .boolean (Int32.ofInt x) = Int32.ofInt (xnb x) := n_bool x
          rw [hv2_, wd_set cs ρ σ (k := j.toNat) (v := xnb x) hxa_ (by rw [cellE_int cs ρ _ (by omega), rowI_set, hlc_, hnz_])] at hP1_
          exact kk _ _ _ ⟨hP1_, hS1_, InR_up hσ (by rw [lg_arr (by omega) (by omega)]; exact n_nb_in _), hl, hn, hol, ok_tl (ok_tl (ok_tl hos))⟩
  case lastore =>
    have hlen := Nat.eq_of_beq_eq_true hok
    subst hlen
    dsimp only [xstepI] at hst
    split at hst
    case h_2 => exact nomatch hst
    case h_1 x j a st2 =>
      cases hbq_ : Nat.beq (lay a).1 23 with
      | false =>
        rw [hbq_] at hst
        cases hst
      | true =>
        rw [hbq_] at hst
        obtain ⟨hg_, rfl⟩ := Prod.mk.inj (Option.some.inj hst)
        have hlc_ : (lay a).1 = 23 := Nat.eq_of_beq_eq_true hbq_
        have hxa_ : a < xNA := lay_lt (by omega)
        obtain ⟨hv1_, hv2_, hv3_, hv4_⟩ := n_vp (lay_len hxa_ (by omega)) hg_
        have hcell_ := wd_at cs ρ σ hxa_
        rw [cellE_long cs ρ σ (by omega)] at hcell_
        refine va_last hx hb hK hP hD hS a 3 hcell_ rfl hv1_ hdg (fun H1 locs1 hP1_ _ hS1_ => ?_)
        rw [hv2_, wd_set cs ρ σ (k := j.toNat) (v := x) hxa_ (by rw [cellE_long cs ρ _ (by omega), rowL_set])] at hP1_
        exact kk _ _ _ ⟨hP1_, hS1_, InR_up hσ (by rw [lg_arr23 (by omega)]; exact ok_hd hos), hl, hn, hol, ok_tl (ok_tl (ok_tl hos))⟩
  case arraylength =>
    have hlen := Nat.eq_of_beq_eq_true hok
    subst hlen
    dsimp only [xstepI] at hst
    split at hst
    case h_2 => exact nomatch hst
    case h_1 a st2 =>
      cases hsq_ : Nat.beq a xscr with
      | true =>
        rw [hsq_] at hst
        dsimp only [cond_true] at hst
        split at hst
        case h_2 => exact nomatch hst
        case h_1 n f =>
          cases hst
          have haq_ := Nat.eq_of_beq_eq_true hsq_
          subst haq_
          obtain ⟨xs, hX_, hbl_, hbA_, hn6_, rfl⟩ := hsc n f rfl
          exact va_slen hx hb hX_ hbl_ hbA_ hS hdg (kk _ _ _ ⟨hP, hS, hσ, hl, hn, hol, ok_cons ⟨by omega, by omega⟩ (ok_tl hos)⟩)
      | false =>
        rw [hsq_] at hst
        dsimp only [cond_false] at hst
        cases hbq_ : (Nat.ble 20 (lay a).1 && Nat.ble (lay a).1 24) with
        | false =>
          rw [hbq_] at hst
          cases hst
        | true =>
          rw [hbq_] at hst
          cases hst
          obtain ⟨h1_, h2_⟩ := Bool.and_eq_true_iff.mp hbq_
          have h1_ := Nat.le_of_ble_eq_true h1_
          have h2_ := Nat.le_of_ble_eq_true h2_
          have hxa_ : a < xNA := lay_lt (by omega)
          have hln_ := lay_len hxa_ (by omega)
          have hkn_ := kk _ _ _ ⟨hP, hS, hσ, hl, hn, hol, ok_cons (⟨by omega, by omega⟩ : okV (vI (((lay a).2 : Nat) : Int))) (ok_tl hos)⟩
          have hcell_ := wd_at cs ρ σ hxa_
          rcases (show (lay a).1 = 20 ∨ (lay a).1 = 21 ∨ (lay a).1 = 22 ∨ (lay a).1 = 23 ∨ (lay a).1 = 24 by omega) with z_ | z_ | z_ | z_ | z_
          · rw [cellE_int cs ρ σ (by omega), z_] at hcell_
            exact va_alen hx hb hK hP a 0 hcell_ rfl rfl hdg hkn_
          · rw [cellE_int cs ρ σ (by omega), z_] at hcell_
            exact va_alen hx hb hK hP a 1 hcell_ rfl rfl hdg hkn_
          · rw [cellE_int cs ρ σ (by omega), z_] at hcell_
            exact va_alen hx hb hK hP a 2 hcell_ rfl rfl hdg hkn_
          · rw [cellE_long cs ρ σ (by omega)] at hcell_
            exact va_alen hx hb hK hP a 3 hcell_ rfl rfl hdg hkn_
          · rw [cellE_st cs ρ σ (by omega)] at hcell_
            exact va_alen hx hb hK hP a 4 hcell_ rfl rfl hdg hkn_
  case invokestatic i =>
    have hlen := Nat.eq_of_beq_eq_true hok
    subst hlen
    dsimp only [xstepI] at hst
    split at hst
    case h_5 => exact nomatch hst
    case h_1 y x st2 hj_ =>
      cases hbs_ : Nat.ble (st2.map xcat).sum 8 with
      | false =>
        rw [hbs_] at hst
        cases hst
      | true =>
        rw [hbs_] at hst
        cases hst
        have hsm_ : ((st2.map (emb ρ)).map fun v => v.category).sum ≤ 8 := by rw [emb_sum]; exact Nat.le_of_ble_eq_true hbs_
        obtain ⟨j1_, j2_, j3_, j4_, j5_, j6_, j7_, j8_, j9_⟩ := jB_in
        refine va_mmax hx hb hmr hown (hts _ (jW_in hj_)) (hts _ j2_) (hts _ j1_) (hts _ j6_) (by omega) (by omega) hRc hRs hdg ?_
        rw [n_max (ok_hd (ok_tl hos)) (ok_hd hos)]
        exact kk _ _ _ ⟨hP, hS, hσ, hl, hn, hol, ok_cons (show in32 (xmax x y) from by unfold xmax; split; exact ok_hd hos; exact ok_hd (ok_tl hos)) (ok_tl (ok_tl hos))⟩
    case h_2 y x st2 hj_ =>
      cases hbs_ : Nat.ble (st2.map xcat).sum 8 with
      | false =>
        rw [hbs_] at hst
        cases hst
      | true =>
        rw [hbs_] at hst
        cases hst
        have hsm_ : ((st2.map (emb ρ)).map fun v => v.category).sum ≤ 8 := by rw [emb_sum]; exact Nat.le_of_ble_eq_true hbs_
        obtain ⟨j1_, j2_, j3_, j4_, j5_, j6_, j7_, j8_, j9_⟩ := jB_in
        refine va_mmin hx hb hmr hown (hts _ (jW_in hj_)) (hts _ j3_) (hts _ j1_) (hts _ j7_) (by omega) (by omega) hRc hRs hdg ?_
        rw [n_min (ok_hd (ok_tl hos)) (ok_hd hos)]
        exact kk _ _ _ ⟨hP, hS, hσ, hl, hn, hol, ok_cons (show in32 (xmin x y) from by unfold xmin; split; exact ok_hd (ok_tl hos); exact ok_hd hos) (ok_tl (ok_tl hos))⟩
    case h_3 x st2 hj_ =>
      cases hbs_ : Nat.ble (st2.map xcat).sum 8 with
      | false =>
        rw [hbs_] at hst
        cases hst
      | true =>
        rw [hbs_] at hst
        cases hst
        have hsm_ : ((st2.map (emb ρ)).map fun v => v.category).sum ≤ 8 := by rw [emb_sum]; exact Nat.le_of_ble_eq_true hbs_
        obtain ⟨j1_, j2_, j3_, j4_, j5_, j6_, j7_, j8_, j9_⟩ := jB_in
        refine va_mabs hx hb hmr hown (hts _ (jW_in hj_)) (hts _ j4_) (hts _ j1_) (hts _ j8_) (by omega) (by omega) hRc hRs hdg ?_
        rw [n_abs (ok_hd hos)]
        exact kk _ _ _ ⟨hP, hS, hσ, hl, hn, hol, ok_cons (show in32 (xabs x) from by unfold xabs; split; exact ok_hd hos; exact w32_in _) (ok_tl hos)⟩
    case h_4 x st2 hj_ =>
      cases hbs_ : Nat.ble (st2.map xcat).sum 8 with
      | false =>
        rw [hbs_] at hst
        cases hst
      | true =>
        rw [hbs_] at hst
        cases hst
        have hsm_ : ((st2.map (emb ρ)).map fun v => v.category).sum ≤ 8 := by rw [emb_sum]; exact Nat.le_of_ble_eq_true hbs_
        obtain ⟨j1_, j2_, j3_, j4_, j5_, j6_, j7_, j8_, j9_⟩ := jB_in
        refine va_mabs_long hx hb hmr hown (hts _ (jW_in hj_)) (hts _ j5_) (hts _ j1_) (hts _ j9_) (by omega) (by omega) hRc hRs hdg ?_
        rw [n_labs (ok_hd hos)]
        exact kk _ _ _ ⟨hP, hS, hσ, hl, hn, hol, ok_cons (show in64 (xlabs x) from by unfold xlabs; split; exact ok_hd hos; exact w64_in _) (ok_tl hos)⟩
  case invokevirtual i =>
    have hlen := Nat.eq_of_beq_eq_true hok
    subst hlen
    dsimp only [xstepI] at hst
    split at hst
    case h_3 => exact nomatch hst
    case h_1 a st2 hj_ =>
      cases hbs_ : (isStr a && Nat.ble (st2.map xcat).sum 8) with
      | false =>
        rw [hbs_] at hst
        cases hst
      | true =>
        rw [hbs_] at hst
        cases hst
        obtain ⟨hs1_, hs2_⟩ := Bool.and_eq_true_iff.mp hbs_
        have hsm_ : ((st2.map (emb ρ)).map fun v => v.category).sum ≤ 8 := by rw [emb_sum]; exact Nat.le_of_ble_eq_true hs2_
        have hsl_ : in32 (slen a) := by
          have hz_ : ∀ n, ((xTxt.getD n []).length) < 1000 := by
            intro n
            rcases Nat.lt_or_ge n 15 with q_ | q_
            · exact (show ∀ n, n < 15 → (xTxt.getD n []).length < 1000 by decide) n q_
            · rw [show xTxt.getD n [] = [] from by rw [List.getD_eq_getElem?_getD, List.getElem?_eq_none (show xTxt.length ≤ n from q_)]; rfl]
              decide
          have := hz_ (a - xstr0)
          unfold slen
          exact ⟨by omega, by omega⟩
        exact hstr.1 i pc a H locs real _ hj_ hs1_ hsm_ hsz hS hdg (fun locs1 hS1_ => kk _ _ _ ⟨hP, hS1_, hσ, hl, hn, hol, ok_cons hsl_ (ok_tl hos)⟩)
    case h_2 x a st2 hj_ =>
      cases hbs_ : (isStr a && Nat.ble (st2.map xcat).sum 8) with
      | false =>
        rw [hbs_] at hst
        cases hst
      | true =>
        rw [hbs_] at hst
        obtain ⟨hg_, rfl⟩ := Prod.mk.inj (Option.some.inj hst)
        obtain ⟨hs1_, hs2_⟩ := Bool.and_eq_true_iff.mp hbs_
        have hgx_ : 0 ≤ x ∧ x < slen a := of_decide_eq_true hg_
        have hsm_ : ((st2.map (emb ρ)).map fun v => v.category).sum ≤ 8 := by rw [emb_sum]; exact Nat.le_of_ble_eq_true hs2_
        have hsl_ : in32 (sch a x) := by
          have hz_ : ∀ n k, ((xTxt.getD n []).getD k 0) < 1000 := by
            intro n k
            have hz2_ : ∀ n, ∀ v ∈ xTxt.getD n [], v < 1000 := by
              intro n
              rcases Nat.lt_or_ge n 15 with q_ | q_
              · exact (show ∀ n, n < 15 → ∀ v ∈ xTxt.getD n [], v < 1000 by decide) n q_
              · rw [show xTxt.getD n [] = [] from by rw [List.getD_eq_getElem?_getD, List.getElem?_eq_none (show xTxt.length ≤ n from q_)]; rfl]
                intro v hv
                cases hv
            rcases Nat.lt_or_ge k (xTxt.getD n []).length with q_ | q_
            · rw [List.getD_eq_getElem?_getD, List.getElem?_eq_getElem q_]
              exact hz2_ n _ (List.getElem_mem q_)
            · rw [List.getD_eq_getElem?_getD, List.getElem?_eq_none q_]
              decide
          have := hz_ (a - xstr0) x.toNat
          unfold sch
          exact ⟨by omega, by omega⟩
        exact hstr.2 i pc a x H locs real _ hj_ hs1_ hgx_.1 hgx_.2 hsm_ hsz hS hdg (fun locs1 hS1_ => kk _ _ _ ⟨hP, hS1_, hσ, hl, hn, hol, ok_cons hsl_ (ok_tl (ok_tl hos))⟩)
end STEP
