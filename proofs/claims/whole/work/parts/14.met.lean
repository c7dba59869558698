/-! METHODS: where the reader's call ends, the machine's does: MetG by the depth -/
theorem narrowZ (x : Int) : narrow .boolean (.int (Int32.ofInt x)) = .int (Int32.ofInt (xnb x)) := congrArg Value.int (n_bool x)
section RETS
variable {p : Program} {l : Launch} {e : Env} {R : Room} {s : State} {m : MethodId} {args : Array Value} {below : List Frame} {meth : Method} {c : Code} {H : Heap} {locs : List Loc} {cells slots : Nat}
/-- an int returned by a boolean method: its last bit (after the kit's W.zret) -/
theorem x_zret {cc : ByteArray} {Qc : Array Value → State → Outcome → State → Prop} {free : Addr → Prop} {v w : Int32} {ty : FieldType} (hexec : p.tables.exec = Jvm.exec) (hb : c.code = cc) (hr : meth.sig.returnType = some ty) (hn : narrow ty (.int v) = .int w)
    (hq : ∀ t : State, t.heap = H → s.WarmedH t.vm → Qc args s (.returned (some (.int w))) t) (hf : ∀ q ∈ locs, free q.base)
    {pc : Nat} {ls : Array Slot} (hdg : decode cc pc = .ok (.ireturn, 1)) (hlocks : meth.locks = false) : W p l e R s m args below meth c H locs cells slots (MQ below Qc args s cells slots free) (F0 m pc ls [.int v]) := by
  intro T hT X
  obtain ⟨fs, hret, hrun, hended, hW, hframe⟩ := X.leave (v := some (.int w)) (fun h => by rw [hr] at h; cases h)
  have hmeth' : T.vm.method? m = some meth := X.method'
  refine ⟨T.setFrames fs, ?_, .returned (some (.int w)), hrun, hended, hq _ hT hW, locs, ⟨⟨_, rfl⟩, hW, hframe⟩, hf⟩
  jvm_step X.here [X.here.top, hexec, hb, hdg, hmeth', hr, hn]
  (try refine ⟨rfl, ?_⟩); (try refine ⟨rfl, ?_⟩)
  first | (intro acts; rw [hret _ acts rfl rfl rfl]) | rw [hret _ _ rfl rfl rfl]
  exact Steps.refl _
end RETS
/-- what is left to show of String.length and String.charAt -/
def StrLaw (l : Launch) : Prop := ∀ (p : Program) (e : Env) (R : Room) (s : State) (m : MethodId) (args : Array Value) (below : List Frame) (meth : Method) (c : Code) (cells slots : Nat) (Q : State → Prop) (cc : ByteArray) (cs ρ adV : Nat → Nat) (dC : Nat → ClassId) (dI : Nat → Nat → Nat) (A : Nat → Prop) (nL own : Nat),
  FrOk p R s m args c cells slots cc cs ρ dC dI A nL own → StrEnv ρ adV A s → (∀ q, s.heap.size ≤ q → A q) → 200 ≤ R.locals → StrOk p l e R s m args below meth c cells slots Q cc ρ A s.heap nL own
/-- the locals at a method's entry -/
theorem lvL_entry (ρ : Nat → Nat) : ∀ (as : List xV) (i0 : Nat) (pre : xL), pre.length = i0 →
    ∀ i v, (pre ++ eL as)[i]? = some (some v) → i0 ≤ i → (i, emb ρ v) ∈ lv_args i0 (as.map (emb ρ)) := by
  intro as
  induction as with
  | nil =>
    intro i0 pre hp i v h hi
    simp only [eL, List.append_nil] at h
    have := (List.getElem?_eq_some_iff.mp h).1
    omega
  | cons a as ih =>
    intro i0 pre hp i v h hi
    have hcase : (isL a = true ∧ eL (a :: as) = some a :: none :: eL as) ∨ (isL a = false ∧ eL (a :: as) = some a :: eL as) := by
      rcases a with x | x | x
      · exact Or.inr ⟨rfl, rfl⟩
      · exact Or.inl ⟨rfl, rfl⟩
      · exact Or.inr ⟨rfl, rfl⟩
    rcases hcase with ⟨hl, he⟩ | ⟨hl, he⟩
    · rw [he] at h
      have hc : (emb ρ a).category = 2 := by rw [emb_cat, xcat, hl]; rfl
      simp only [List.map_cons, lv_args, if_pos hc]
      by_cases hi0 : i = i0
      · subst hi0
        rw [List.getElem?_append_right (by omega), hp, Nat.sub_self] at h
        cases h
        exact List.mem_cons_self
      · refine List.mem_cons_of_mem _ (ih (i0 + 2) (pre ++ [some a, none]) (by simp [hp]) i v (by simpa using h) ?_)
        rcases Nat.lt_or_ge i (i0 + 2) with hq | hq
        · have : i = i0 + 1 := by omega
          subst this
          rw [List.getElem?_append_right (by omega), hp, show i0 + 1 - i0 = 1 by omega] at h
          cases h
        · exact hq
    · rw [he] at h
      have hc : ¬ (emb ρ a).category = 2 := by
        rw [emb_cat, xcat, hl]
        decide
      simp only [List.map_cons, lv_args, if_neg hc]
      by_cases hi0 : i = i0
      · subst hi0
        rw [List.getElem?_append_right (by omega), hp, Nat.sub_self] at h
        cases h
        exact List.mem_cons_self
      · exact List.mem_cons_of_mem _ (ih (i0 + 1) (pre ++ [some a]) (by simp [hp]) i v (by simpa using h) (by omega))
theorem eP_at : ∀ (n : Nat) (l : xL) (i : Nat) (v : xV), (eP n l)[i]? = some (some v) → l[i]? = some (some v)
  | 0, l, i, v, h => h
  | n + 1, [], i, v, h => by
    cases i with
    | zero => cases h
    | succ i =>
      have := eP_at n [] i v h
      simp at this
  | n + 1, w :: l, i, v, h => by
    cases i with
    | zero => exact h
    | succ i => exact eP_at n l i v h
theorem eP_len : ∀ (n : Nat) (l : xL), l.length ≤ n → (eP n l).length = n
  | 0, l, h => by
    have h1 : l.length = 0 := by omega
    exact h1
  | n + 1, [], h => by
    simp only [eP, List.length_cons]
    rw [eP_len n [] (Nat.zero_le n)]
  | n + 1, w :: l, h => by
    simp only [eP, List.length_cons]
    rw [eP_len n l (by simpa using h)]
theorem eP_len_ge : ∀ (n : Nat) (l : xL), (eP n l).length = n → l.length ≤ n
  | 0, l, h => by
    have h1 : l.length = 0 := h
    omega
  | n + 1, [], h => Nat.zero_le _
  | n + 1, w :: l, h => by
    simp only [eP, List.length_cons] at h
    have := eP_len_ge n l (by omega)
    simp only [List.length_cons]
    omega
theorem eL_len (ρ : Nat → Nat) : ∀ as : List xV, (lg_sl (as.map (emb ρ))).length = (eL as).length
  | [] => rfl
  | a :: as => by
    have ih := eL_len ρ as
    have hs : lg_sl ((a :: as).map (emb ρ)) = (if (emb ρ a).category = 2 then [Slot.val (emb ρ a), Slot.second] else [Slot.val (emb ρ a)]) ++ lg_sl (as.map (emb ρ)) := by
      simp [lg_sl]
    rw [hs, List.length_append, ih]
    rcases a with x | x | x
    · rw [if_neg (show ¬ (emb ρ (Sum.inl x)).category = 2 from by rw [emb_cat]; exact (by decide : ¬ (1 : Nat) = 2))]
      simp only [eL, List.length_cons, List.length_nil]
      omega
    · rw [show (emb ρ (Sum.inr (Sum.inl x))).category = 2 from rfl, if_pos rfl]
      simp only [eL, List.length_cons, List.length_nil]
      omega
    · rw [if_neg (show ¬ (emb ρ (Sum.inr (Sum.inr x))).category = 2 from by rw [emb_cat]; exact (by decide : ¬ (1 : Nat) = 2))]
      simp only [eL, List.length_cons, List.length_nil]
      omega
theorem lvL_of {ρ : Nat → Nat} {as : List xV} {n : Nat} : ∀ q ∈ lvL ρ (eP n (eL as)), q ∈ lv_args 0 (as.map (emb ρ)) := by
  intro q hq
  obtain ⟨j, -, hE_⟩ := List.mem_filterMap.mp hq
  obtain ⟨hf_, w, hw_, hw2_, -⟩ := lvE_fst hE_
  have h1 := lvL_entry ρ as 0 [] rfl j w (by simpa using eP_at n _ j w hw_) (Nat.zero_le _)
  have h2 : q = (j, emb ρ w) := by rw [← hf_, ← hw2_]
  rw [h2]
  exact h1
theorem ok_eL {as : List xV} (h : ∀ v ∈ as, okV v) : ∀ v, some v ∈ eL as → okV v := by
  induction as with
  | nil =>
    intro v hv
    cases hv
  | cons a as ih =>
    intro v hv
    have h1 : v = a ∨ some v ∈ eL as := by
      rcases a with x | x | x
      · rcases List.mem_cons.mp hv with z | z
        · exact Or.inl (Option.some.inj z)
        · exact Or.inr z
      · rcases List.mem_cons.mp hv with z | z
        · exact Or.inl (Option.some.inj z)
        · rcases List.mem_cons.mp z with z | z
          · cases z
          · exact Or.inr z
      · rcases List.mem_cons.mp hv with z | z
        · exact Or.inl (Option.some.inj z)
        · exact Or.inr z
    rcases h1 with rfl | h1
    · exact h v List.mem_cons_self
    · exact ih (fun w hw => h w (List.mem_cons_of_mem _ hw)) v h1
/-- every method: where the reader's call comes to an end, the machine's does -/
theorem met_ok {l : Launch} (HS : StrLaw l) {cs ρ adV : Nat → Nat} {dC : Nat → ClassId} {dI : Nat → Nat → Nat} (hinj : ∀ a b, a < xNA → b < xNA → ρ a = ρ b → a = b) (N : Nat) :
    ∀ (d m : Nat) (as : List xV) (σ : xSt) (r : Option xV) (σ' : xSt), callD N d m as σ = some (some r, σ') → (∃ q ∈ mP, q.1 = m) → InR σ → (∀ v ∈ as, okV v) → MetG l cs ρ adV dC dI d m as σ r σ' 0 0 := by
  intro d
  induction d with
  | zero => exact fun m as σ r σ' h => nomatch h
  | succ d ih =>
    intro m as σ r σ' h hm hσ has sz
    have hrun : Nat.ble (eL as).length (mMax m) = true ∧ runI none (callD N d) (mOwn m) (mRk m) (mCode m) N (0, eP (mMax m) (eL as), [], σ) = some (some r, σ') := by
      unfold callD at h
      cases hb_ : Nat.ble (eL as).length (mMax m) with
      | false =>
        rw [hb_] at h
        cases h
      | true =>
        rw [hb_] at h
        exact ⟨rfl, h⟩
    obtain ⟨hle_, hrun⟩ := hrun
    have hle_ : (eL as).length ≤ mMax m := Nat.le_of_ble_eq_true hle_
    obtain ⟨q, hq, hqm⟩ := hm
    obtain ⟨f1_, f2_, f3_, f4_, -, -⟩ := mP_facts hq
    have hcd_ := cd_in hq
    obtain ⟨k0_, k1_, k2_, k3_, k4_⟩ := rk_of hq
    have ho_ := mOwn_lt hq
    unfold cdQ at hcd_
    rw [hqm] at f1_ f2_ f3_ f4_ hcd_ k0_ k1_ k2_ k3_ k4_ ho_
    refine Met.ofW (cc := mBytes m) (maxL := mMax m) (ret := mRet m) f3_ rfl ?_
    intro p e s mm args below meth c s₁ B hml hv
    obtain ⟨rfl, hsz, hP, hK, hN, hE⟩ := hv
    subst hsz
    have hts0 := atoms_spec (ws := Cond.code (mY m) (mBytes m) (mMax m) (mRet m) :: GW) B.pre
    have hts : ∀ w ∈ GW, w.before (as.map (emb ρ)).toArray s = true := fun w hw => hts0 w (List.mem_cons_of_mem _ hw)
    have hown : s.vm.findClass (cnm (mOwn m)) = some mm.cls := by
      rw [← f2_]
      exact findClass_of_methodNamed B.named
    have hlocks := B.notSynchronized
    have hr := B.returns
    have hAr : ∀ a, a < xNA → AW ρ s.heap.size (ρ a) := fun a ha => Or.inl ⟨a, ha, rfl⟩
    have F : FrOk p (headSpec (Cond.code (mY m) (mBytes m) (mMax m) (mRet m) :: GW) { rmD (d + 1) with cells := 0, slots := 0 }).room s mm (as.map (emb ρ)).toArray c 0 0 (mBytes m) cs ρ dC dI (AW ρ s.heap.size) (mMax m) (mOwn m) :=
      ⟨B.exec, B.bytes, hml, hown, hts, hN, hK, hinj, hAr, hE.1 (mOwn m), by show 8 ≤ d + 1 + 8; omega, by show 60 ≤ 36 * (d + 1) + 200; omega, Nat.zero_le _, Nat.zero_le _⟩
    have hstr := HS p e _ s mm (as.map (emb ρ)).toArray below meth c 0 0 (MQ below (QcG cs ρ dC dI r σ' (AW ρ s.heap.size)) (as.map (emb ρ)).toArray s 0 0 (AW ρ s.heap.size)) (mBytes m) cs ρ adV dC dI (AW ρ s.heap.size) (mMax m) (mOwn m) F hE (fun q hq => Or.inr hq) (by show 200 ≤ 36 * (d + 1) + 200; omega)
    have hfin : ∀ pc i len ls st, mCode m pc = some (i, len) → xretI (mOwn m) (mRk m) st i = some (some r) → WS p l e (headSpec (Cond.code (mY m) (mBytes m) (mMax m) (mRet m) :: GW) { rmD (d + 1) with cells := 0, slots := 0 }).room s mm (as.map (emb ρ)).toArray below meth c 0 0 (MQ below (QcG cs ρ dC dI r σ' (AW ρ s.heap.size)) (as.map (emb ρ)).toArray s 0 0 (AW ρ s.heap.size)) cs ρ dC dI (AW ρ s.heap.size) s.heap (mMax m) (pc, ls, st, σ') := by
      intro pc i len ls st hi hret H locs real hR
      obtain ⟨hP2, hS2, hσ2, hl2, hn2, hol2, hos2⟩ := hR
      obtain ⟨hdg, hok⟩ := hcd_ pc i len hi
      have hq_ : ∀ w : Option xV, (∀ x, w = some x → okV x) → r = w → ∀ t : State, t.heap = H → s.WarmedH t.vm → QcG cs ρ dC dI r σ' (AW ρ s.heap.size) (as.map (emb ρ)).toArray s (.returned (w.map (emb ρ))) t := by
        intro w hw hrw t ht hW
        refine ⟨by rw [hrw], by rw [ht]; exact hP2, hS2.F ht, hσ2, fun x hx => hw x (by rw [← hrw]; exact hx)⟩
      cases i <;> try (simp only [xretI, reduceCtorEq] at hret; done)
      case ireturn =>
        have hlen := Nat.eq_of_beq_eq_true hok
        subst hlen
        dsimp only [xretI] at hret
        split at hret
        case h_2 => exact nomatch hret
        case h_1 x =>
          have hxo_ : okV (vI x) := hos2 _ List.mem_cons_self
          cases hb1_ : Nat.beq (mRk m) 1 with
          | true =>
            rw [hb1_] at hret
            cases hret
            refine W.iret B.exec B.bytes (by rw [hr, k1_ (Nat.eq_of_beq_eq_true hb1_)]) (hq_ (some (vI x)) (fun y hy => by cases hy; exact hxo_) rfl) hS2.2.2 hdg
          | false =>
            rw [hb1_] at hret
            dsimp only [cond_false] at hret
            cases hb2_ : Nat.beq (mRk m) 2 with
            | false =>
              rw [hb2_] at hret
              cases hret
            | true =>
              rw [hb2_] at hret
              cases hret
              exact x_zret B.exec B.bytes (by rw [hr, k2_ (Nat.eq_of_beq_eq_true hb2_)]) (narrowZ x) (hq_ (some (vI (xnb x))) (fun y hy => by cases hy; exact n_nb_in x) rfl) hS2.2.2 hdg hlocks
      case lreturn =>
        have hlen := Nat.eq_of_beq_eq_true hok
        subst hlen
        dsimp only [xretI] at hret
        split at hret
        case h_2 => exact nomatch hret
        case h_1 x =>
          have hxo_ : okV (vL x) := hos2 _ List.mem_cons_self
          cases hb1_ : Nat.beq (mRk m) 3 with
          | false =>
            rw [hb1_] at hret
            cases hret
          | true =>
            rw [hb1_] at hret
            cases hret
            exact W.lret B.exec B.bytes (by rw [hr, k3_ (Nat.eq_of_beq_eq_true hb1_)]) (hq_ (some (vL x)) (fun y hy => by cases hy; exact hxo_) rfl) hS2.2.2 hdg
      case areturn =>
        have hlen := Nat.eq_of_beq_eq_true hok
        subst hlen
        dsimp only [xretI] at hret
        split at hret
        case h_2 => exact nomatch hret
        case h_1 x =>
          cases hb1_ : Nat.beq (mRk m) 4 with
          | false =>
            rw [hb1_] at hret
            cases hret
          | true =>
            rw [hb1_] at hret
            cases hret
            cases x with
            | none => exact W.aret B.exec B.bytes (by rw [hr, k4_ (Nat.eq_of_beq_eq_true hb1_)]) (Or.inl ⟨_, rfl⟩) (Or.inl rfl) (hq_ (some vN) (fun y hy => by cases hy; trivial) rfl) hS2.2.2 hdg
            | some a => exact W.aret B.exec B.bytes (by rw [hr, k4_ (Nat.eq_of_beq_eq_true hb1_)]) (Or.inl ⟨_, rfl⟩) (Or.inr ⟨_, rfl⟩) (hq_ (some (vR a)) (fun y hy => by cases hy; trivial) rfl) hS2.2.2 hdg
      case return_ =>
        have hlen := Nat.eq_of_beq_eq_true hok
        subst hlen
        dsimp only [xretI] at hret
        split at hret
        case h_2 => exact nomatch hret
        case h_1 =>
          cases hb1_ : Nat.beq (mRk m) 0 with
          | false =>
            rw [hb1_] at hret
            cases hret
          | true =>
            rw [hb1_] at hret
            cases hret
            exact W.vret B.exec B.bytes (by rw [hr, k0_ (Nat.eq_of_beq_eq_true hb1_)]) (hq_ none (fun y hy => nomatch hy) rfl) hS2.2.2 hdg
      case new ix =>
        dsimp only [xretI] at hret
        split at hret
        case h_1 => exact nomatch hret
        case h_2 => exact nomatch hret
    have hbody := body_ok (sc := none) (adV := adV) (l := l) (nL := mMax m) ho_ F hE (fun q hq => Or.inr hq) (by show d + 9 ≤ d + 1 + 8; omega) (by show 36 * d + 236 ≤ 36 * (d + 1) + 200; omega) (fun n f hq => nomatch hq) hstr hcd_ (fun m2 as2 σ2 r2 σ2' h1 h2 h3 h4 => ih m2 as2 σ2 r2 σ2' h1 h2 h3 h4) hfin N _ hrun
    rw [lg_entry_eq]
    have hl := lv_entry (as.map (emb ρ)) (n := mMax m) (by rw [eL_len]; exact hle_)
    exact hbody s.heap [] _ ⟨hP, va_S.rf, hσ, lv_more hl lvL_of, eP_len _ _ hle_, fun v hv => ok_eL has v (by
      obtain ⟨j, hj⟩ := List.getElem?_of_mem hv
      exact List.mem_of_getElem? (eP_at _ _ j v hj)), fun v hv => nomatch hv⟩
