/-! String.length and String.charAt of a text of the class files, over the JDK's code -/
def yS_length : MethodName := ⟨"java/lang/String", "length", "()I"⟩
set_option maxRecDepth 20000 in
theorem wS_length : Cond.code yS_length prog_21_method_54_code 1 (some .int) ∈ GW := GW_of (List.mem_of_getElem? (i := 503) rfl) rfl
def yS_coder : MethodName := ⟨"java/lang/String", "coder", "()B"⟩
set_option maxRecDepth 20000 in
theorem wS_coder : Cond.code yS_coder prog_21_method_152_code 1 (some .byte) ∈ GW := GW_of (List.mem_of_getElem? (i := 507) rfl) rfl
def yS_charAt : MethodName := ⟨"java/lang/String", "charAt", "(I)C"⟩
set_option maxRecDepth 20000 in
theorem wS_charAt : Cond.code yS_charAt prog_21_method_56_code 2 (some .char) ∈ GW := GW_of (List.mem_of_getElem? (i := 513) rfl) rfl
def yS_isLatin1 : MethodName := ⟨"java/lang/String", "isLatin1", "()Z"⟩
set_option maxRecDepth 20000 in
theorem wS_isLatin1 : Cond.code yS_isLatin1 prog_21_method_154_code 1 (some .boolean) ∈ GW := GW_of (List.mem_of_getElem? (i := 517) rfl) rfl
def yS_lcharAt : MethodName := ⟨"java/lang/StringLatin1", "charAt", "([BI)C"⟩
set_option maxRecDepth 20000 in
theorem wS_lcharAt : Cond.code yS_lcharAt prog_22_method_2_code 2 (some .char) ∈ GW := GW_of (List.mem_of_getElem? (i := 520) rfl) rfl
def yS_checkIndex : MethodName := ⟨"java/lang/String", "checkIndex", "(II)V"⟩
set_option maxRecDepth 20000 in
theorem wS_checkIndex : Cond.code yS_checkIndex prog_21_method_155_code 2 none ∈ GW := GW_of (List.mem_of_getElem? (i := 523) rfl) rfl
def yS_pcheck : MethodName := ⟨"jdk/internal/util/Preconditions", "checkIndex", "(IILjava/util/function/BiFunction;)I"⟩
set_option maxRecDepth 20000 in
theorem wS_pcheck : Cond.code yS_pcheck prog_28_method_11_code 3 (some .int) ∈ GW := GW_of (List.mem_of_getElem? (i := 528) rfl) rfl
theorem wSl_len : (Cond.methodLink "java/lang/String" 335 yS_coder) ∈ GW := GW_of (List.mem_of_getElem? (i := 504) (by decide +kernel)) rfl
theorem wSi_coder : (Cond.instanceMethod yS_coder) ∈ GW := GW_of (List.mem_of_getElem? (i := 505) (by decide +kernel)) rfl
theorem wSs_coder : (Cond.selects "java/lang/String" yS_coder yS_coder) ∈ GW := GW_of (List.mem_of_getElem? (i := 506) (by decide +kernel)) rfl
theorem wSf_comp : (Cond.fieldLink "java/lang/String" 38 "java/lang/String" "COMPACT_STRINGS" "Z") ∈ GW := GW_of (List.mem_of_getElem? (i := 508) (by decide +kernel)) rfl
theorem wSi_length : (Cond.instanceMethod yS_length) ∈ GW := GW_of (List.mem_of_getElem? (i := 501) (by decide +kernel)) rfl
theorem wSs_length : (Cond.selects "java/lang/String" yS_length yS_length) ∈ GW := GW_of (List.mem_of_getElem? (i := 502) (by decide +kernel)) rfl
theorem wSi_charAt : (Cond.instanceMethod yS_charAt) ∈ GW := GW_of (List.mem_of_getElem? (i := 511) (by decide +kernel)) rfl
theorem wSs_charAt : (Cond.selects "java/lang/String" yS_charAt yS_charAt) ∈ GW := GW_of (List.mem_of_getElem? (i := 512) (by decide +kernel)) rfl
theorem wSl_isl : (Cond.methodLink "java/lang/String" 492 yS_isLatin1) ∈ GW := GW_of (List.mem_of_getElem? (i := 514) (by decide +kernel)) rfl
theorem wSi_isl : (Cond.instanceMethod yS_isLatin1) ∈ GW := GW_of (List.mem_of_getElem? (i := 515) (by decide +kernel)) rfl
theorem wSs_isl : (Cond.selects "java/lang/String" yS_isLatin1 yS_isLatin1) ∈ GW := GW_of (List.mem_of_getElem? (i := 516) (by decide +kernel)) rfl
theorem wSl_lch : (Cond.methodLink "java/lang/String" 495 yS_lcharAt) ∈ GW := GW_of (List.mem_of_getElem? (i := 518) (by decide +kernel)) rfl
theorem wSt_lch : (Cond.static yS_lcharAt) ∈ GW := GW_of (List.mem_of_getElem? (i := 519) (by decide +kernel)) rfl
theorem wSl_chk : (Cond.methodLink "java/lang/StringLatin1" 9 yS_checkIndex) ∈ GW := GW_of (List.mem_of_getElem? (i := 521) (by decide +kernel)) rfl
theorem wSt_chk : (Cond.static yS_checkIndex) ∈ GW := GW_of (List.mem_of_getElem? (i := 522) (by decide +kernel)) rfl
theorem wSf_fmt : (Cond.fieldLink "java/lang/String" 1053 "jdk/internal/util/Preconditions" "SIOOBE_FORMATTER" "Ljava/util/function/BiFunction;") ∈ GW := GW_of (List.mem_of_getElem? (i := 524) (by decide +kernel)) rfl
theorem wSl_pck : (Cond.methodLink "java/lang/String" 1059 yS_pcheck) ∈ GW := GW_of (List.mem_of_getElem? (i := 526) (by decide +kernel)) rfl
theorem wSt_pck : (Cond.static yS_pcheck) ∈ GW := GW_of (List.mem_of_getElem? (i := 527) (by decide +kernel)) rfl
theorem wSn_str : (Cond.initialized "java/lang/String") ∈ GW := GW_of (List.mem_of_getElem? (i := 14) (by decide +kernel)) rfl
theorem wSn_lat : (Cond.initialized "java/lang/StringLatin1") ∈ GW := GW_of (List.mem_of_getElem? (i := 15) (by decide +kernel)) rfl
theorem wSn_pre : (Cond.initialized "jdk/internal/util/Preconditions") ∈ GW := GW_of (List.mem_of_getElem? (i := 16) (by decide +kernel)) rfl
theorem wSf_val : (Cond.fieldLink "java/lang/String" 9 "java/lang/String" "value" "[B") ∈ GW := GW_of (List.mem_of_getElem? (i := 2275) (by decide +kernel)) rfl
theorem wSf_cod : (Cond.fieldLink "java/lang/String" 15 "java/lang/String" "coder" "B") ∈ GW := GW_of (List.mem_of_getElem? (i := 2276) (by decide +kernel)) rfl
/-- the texts, as the machine holds them -/
def SE (ρ adV : Nat → Nat) (A : Nat → Prop) (s : State) : Prop :=
  vk_S 15 (xTxt.map List.length) xByt (fun k => ρ (xstr0 + k)) adV A s s.heap ∧
  va_Z "java/lang/String" "COMPACT_STRINGS" "Z" (.int 1) A s s.heap ∧ va_Zq "jdk/internal/util/Preconditions" "SIOOBE_FORMATTER" "Ljava/util/function/BiFunction;" A s s.heap
theorem SE.callee {ρ adV : Nat → Nat} {A B : Nat → Prop} {s U : State} {H : Heap} {locs : List Loc} (h : SE ρ adV A s) (hW : s.WarmedH U.vm) (hU : U.heap = H) (hS : va_S A s.heap H locs) (hAB : ∀ q, B q → A q) : SE ρ adV B U := by
  obtain ⟨h2, h3, h4⟩ := h
  refine ⟨?_, ?_, ?_⟩ <;> rw [hU]
  · exact ((h2.kept hS.2.1).moved hW.alike).narrow hAB
  · exact ((h3.kept hS.2.1).moved hW.alike).narrow hAB
  · exact ((h4.kept hS.2.1).moved hW.alike).narrow hAB
def PcS (ρ adV : Nat → Nat) (as : List Value) (sz : Nat) : Array Value → State → Prop := va_Pc as (fun U => U.heap.size = sz ∧ SE ρ adV (fun q => sz ≤ q) U)
def QcS (r : Option Value) : Array Value → State → Outcome → State → Prop := fun _ st oc t => oc = .returned r ∧ t.heap = st.heap
def rmS (k : Nat) : Room := { frames := k, cells := 0, slots := 0, locals := 40 * k }
theorem PcS_blind {ρ adV : Nat → Nat} {as : List Value} {sz : Nat} : FrameBlind (PcS ρ adV as sz) := by
  intro a U g mk h
  obtain ⟨h0, h1, h2, h3, h4⟩ := h
  exact ⟨h0, h1, h2.moved (Vm.Alike.refl _), h3.moved (Vm.Alike.refl _), h4.moved (Vm.Alike.refl _)⟩
theorem gwG {y : MethodName} {bytes : ByteArray} {maxL : Nat} {ret : Option FieldType} (h : Cond.code y bytes maxL ret ∈ GW) : GoodIn GW (Cond.code y bytes maxL ret :: GW) := fun w hw => (List.mem_cons.mp hw).elim (fun z => by rw [z]; exact ⟨h, Or.inl rfl⟩) (fun z => ⟨z, good_of_word (GW_good z)⟩)
section SC
variable {p : Program} {l : Launch} {e : Env} {R : Room} {s : State} {m : MethodId} {args : Array Value} {below : List Frame} {meth : Method} {c : Code} {H : Heap} {locs : List Loc} {cells slots : Nat} {Q : State → Prop} {cc : ByteArray} {A : Nat → Prop} {ρ adV : Nat → Nat} {nL : Nat} {own : String}
theorem cs_stat {y : MethodName} {bytes : ByteArray} {maxL index n k pc : Nat} {ret : Option FieldType} {as rest : List Value} {real : Array Slot} {r : Option Value} (hx : p.tables.exec = Jvm.exec) (hb : c.code = cc) (hml : c.maxLocals = nL) (hown : s.vm.findClass own = some m.cls) (hts : ∀ w ∈ GW, w.before args s = true) (hE : SE ρ adV A s) (hS : va_S A s.heap H locs) (hAn : ∀ q, s.heap.size ≤ q → A q)
    (hM : Met l y (Cond.code y bytes maxL ret :: GW) (rmS k) (PcS ρ adV as H.size) (QcS r) 0 0 (fun q => H.size ≤ q)) (hcw : Cond.code y bytes maxL ret ∈ GW) (hlk : Cond.methodLink own index y ∈ GW) (hst : Cond.static y ∈ GW) (hini : Cond.initialized y.cls ∈ GW)
    (hd : y.cls ≠ "java/lang/invoke/MethodHandle" ∧ y.cls ≠ "java/lang/invoke/VarHandle" ∧ (parseMethodDescriptor y.desc).map (fun d => d.parameters.length) = some n) (hR : k + 1 ≤ R.frames ∧ 8 + (maxL + 11) + 40 * k ≤ R.locals) (hn : as.length = n) (hsz : real.size = nL) (hsum : (rest.map fun v => v.category).sum ≤ 8) (hc : cells ≤ R.cells) (hs : slots ≤ R.slots) (hdg : decode cc pc = .ok (.invokestatic index, 3))
    (kk : ∀ locs1, va_S A s.heap H locs1 → W p l e R s m args below meth c H locs1 cells slots Q (F0 m (pc + 3) real (r.toList ++ rest))) : W p l e R s m args below meth c H locs cells slots Q (F0 m pc real (as.reverse ++ rest)) := by
  refine x_call (A := A) (va_runS (Ts := GW) (own := own) (nL := nL) (As := as) (rest := rest) ⟨hx, hb, hml, hown, hts⟩ hM ⟨callB_of n hts (gwG hcw) rfl rfl rfl (hts _ hini) (hts _ hlk) hd hR, hts _ hst⟩ ⟨PcS_blind, fun U hU hW => ⟨rfl, by rw [hU], hE.callee hW hU hS (fun q hq => hAn q (Nat.le_trans hS.1 hq))⟩⟩ rfl hn hsz rfl (lv_room hsum) hdg ⟨hc, hs⟩) hS (fun q hq => hAn q (Nat.le_trans hS.1 hq)) (fun v st t H1 locs1 h1 h2 h3 h4 h5 => ?_)
  obtain ⟨hv, hh⟩ := h4
  cases hv
  have e1 : H1 = H := by rw [← h2, hh, h1]
  subst e1
  exact kk locs1 ⟨hS.1, hS.2.1, h5⟩
theorem cs_virt {y : MethodName} {bytes : ByteArray} {maxL index n k pc i : Nat} {ret : Option FieldType} {as rest : List Value} {real : Array Slot} {r : Option Value} (hx : p.tables.exec = Jvm.exec) (hb : c.code = cc) (hml : c.maxLocals = nL) (hown : s.vm.findClass own = some m.cls) (hts : ∀ w ∈ GW, w.before args s = true) (hE : SE ρ adV A s) (hS : va_S A s.heap H locs) (hAn : ∀ q, s.heap.size ≤ q → A q) (hi : i < 15)
    (hM : Met l y (Cond.code y bytes maxL ret :: GW) (rmS k) (PcS ρ adV (.ref (ρ (xstr0 + i)) :: as) H.size) (QcS r) 0 0 (fun q => H.size ≤ q)) (hcw : Cond.code y bytes maxL ret ∈ GW) (hlk : Cond.methodLink own index y ∈ GW) (hst : Cond.instanceMethod y ∈ GW) (hsl : Cond.selects "java/lang/String" y y ∈ GW) (hini : Cond.initialized y.cls ∈ GW)
    (hd : y.cls ≠ "java/lang/invoke/MethodHandle" ∧ y.cls ≠ "java/lang/invoke/VarHandle" ∧ (parseMethodDescriptor y.desc).map (fun d => d.parameters.length) = some n) (hR : k + 1 ≤ R.frames ∧ 8 + (maxL + 11) + 40 * k ≤ R.locals) (hn : as.length = n) (hsz : real.size = nL) (hsum : (rest.map fun v => v.category).sum ≤ 8) (hc : cells ≤ R.cells) (hs : slots ≤ R.slots) (hdg : decode cc pc = .ok (.invokevirtual index, 3))
    (kk : ∀ locs1, va_S A s.heap H locs1 → W p l e R s m args below meth c H locs1 cells slots Q (F0 m (pc + 3) real (r.toList ++ rest))) : W p l e R s m args below meth c H locs cells slots Q (F0 m pc real (as.reverse ++ .ref (ρ (xstr0 + i)) :: rest)) := by
  refine x_call (A := A) (va_runV (Ts := GW) (own := own) (nL := nL) (b := ρ (xstr0 + i)) (C := "java/lang/String") (As := as) (rest := rest) ⟨hx, hb, hml, hown, hts⟩ hM ⟨callB_of n hts (gwG hcw) rfl rfl rfl (hts _ hini) (hts _ hlk) hd hR, hts _ hst, hts _ hsl⟩ ⟨PcS_blind, vk_recv (i := i) (adK := fun k => ρ (xstr0 + k)) hE.1 hi hS, fun U hU hW => ⟨rfl, by rw [hU], hE.callee hW hU hS (fun q hq => hAn q (Nat.le_trans hS.1 hq))⟩⟩ rfl hn hsz rfl (lv_room hsum) hdg ⟨hc, hs⟩) hS (fun q hq => hAn q (Nat.le_trans hS.1 hq)) (fun v st t H1 locs1 h1 h2 h3 h4 h5 => ?_)
  obtain ⟨hv, hh⟩ := h4
  cases hv
  have e1 : H1 = H := by rw [← h2, hh, h1]
  subst e1
  exact kk locs1 ⟨hS.1, hS.2.1, h5⟩
end SC
theorem mS_coder (l : Launch) (ρ adV : Nat → Nat) (sz : Nat) {i : Nat} (hi : i < 15) : Met l yS_coder (Cond.code yS_coder prog_21_method_152_code 1 (some .byte) :: GW) (rmS 0) (PcS ρ adV [.ref (ρ (xstr0 + i))] sz) (QcS (some (.int 0))) 0 0 (fun q => sz ≤ q) := by
  refine Met.ofW (cc := prog_21_method_152_code) (maxL := 1) (ret := (some .byte)) (by decide +kernel) rfl ?_
  intro p e s m args below meth c s₁ B hml hv
  obtain ⟨rfl, hsz, hE⟩ := hv
  subst hsz
  have hx := B.exec
  have hb := B.bytes
  have hr := B.returns
  have hlocks := B.notSynchronized
  have hts0 := atoms_spec (ws := Cond.code yS_coder prog_21_method_152_code 1 (some .byte) :: GW) B.pre
  have hts : ∀ w ∈ GW, w.before _ s = true := fun w hw => hts0 w (List.mem_cons_of_mem _ hw)
  have hown : s.vm.findClass "java/lang/String" = some m.cls := findClass_of_methodNamed B.named
  have hS : va_S (fun q => s.heap.size ≤ q) s.heap s.heap [] := va_S.rf
  have hAn : ∀ q, s.heap.size ≤ q → (fun q => s.heap.size ≤ q) q := fun _ h => h
  have hl := lv_entry [.ref (ρ (xstr0 + i))] (n := 1) (Nat.le_of_ble_eq_true rfl)
  rw [lg_entry_eq]
  generalize (lg_sl [.ref (ρ (xstr0 + i))] ++ List.replicate (1 - (lg_sl [.ref (ρ (xstr0 + i))]).length) Slot.unset).toArray = real at hl ⊢
  have hl : lv_has real 1 [(0, .ref (ρ (xstr0 + i)))] := hl
  refine va_gets hx hb hE.2.1 hS hown (hts _ wSf_comp) (fun _ h => h) (show decode prog_21_method_152_code 0 = .ok (.getstatic 38, 3) from by decide +kernel) ?_
  refine lv_if_eq (tgt := 13) hx hb (show decode prog_21_method_152_code 3 = .ok (.ifCond .eq 10, 3) from by decide +kernel) rfl (fun h => absurd h (by decide)) (fun _ => ?_)
  refine lv_aload_n hx hb (show decode prog_21_method_152_code 6 = .ok (.aload_n 0, 1) from by decide +kernel) rfl (lv_at hl 0 rfl) ?_
  refine vk_getf hx hb (hE.1.1 i hi).2.1 hS hown (hts _ wSf_cod) (fun _ h => h) (show decode prog_21_method_152_code 7 = .ok (.getfield 15, 3) from by decide +kernel) ?_
  refine lv_goto (tgt := 14) hx hb (show decode prog_21_method_152_code 10 = .ok (.goto 4, 3) from by decide +kernel) rfl ?_
  exact x_zret hx hb hr (show narrow .byte (.int 0) = .int 0 from rfl) (fun t ht hW => ⟨rfl, ht⟩) (fun q hq => nomatch hq) (show decode prog_21_method_152_code 14 = .ok (.ireturn, 1) from by decide +kernel) hlocks
theorem mS_isLatin1 (l : Launch) (ρ adV : Nat → Nat) (sz : Nat) {i : Nat} (hi : i < 15) : Met l yS_isLatin1 (Cond.code yS_isLatin1 prog_21_method_154_code 1 (some .boolean) :: GW) (rmS 0) (PcS ρ adV [.ref (ρ (xstr0 + i))] sz) (QcS (some (.int 1))) 0 0 (fun q => sz ≤ q) := by
  refine Met.ofW (cc := prog_21_method_154_code) (maxL := 1) (ret := (some .boolean)) (by decide +kernel) rfl ?_
  intro p e s m args below meth c s₁ B hml hv
  obtain ⟨rfl, hsz, hE⟩ := hv
  subst hsz
  have hx := B.exec
  have hb := B.bytes
  have hr := B.returns
  have hlocks := B.notSynchronized
  have hts0 := atoms_spec (ws := Cond.code yS_isLatin1 prog_21_method_154_code 1 (some .boolean) :: GW) B.pre
  have hts : ∀ w ∈ GW, w.before _ s = true := fun w hw => hts0 w (List.mem_cons_of_mem _ hw)
  have hown : s.vm.findClass "java/lang/String" = some m.cls := findClass_of_methodNamed B.named
  have hS : va_S (fun q => s.heap.size ≤ q) s.heap s.heap [] := va_S.rf
  have hAn : ∀ q, s.heap.size ≤ q → (fun q => s.heap.size ≤ q) q := fun _ h => h
  have hl := lv_entry [.ref (ρ (xstr0 + i))] (n := 1) (Nat.le_of_ble_eq_true rfl)
  rw [lg_entry_eq]
  generalize (lg_sl [.ref (ρ (xstr0 + i))] ++ List.replicate (1 - (lg_sl [.ref (ρ (xstr0 + i))]).length) Slot.unset).toArray = real at hl ⊢
  have hl : lv_has real 1 [(0, .ref (ρ (xstr0 + i)))] := hl
  refine va_gets hx hb hE.2.1 hS hown (hts _ wSf_comp) (fun _ h => h) (show decode prog_21_method_154_code 0 = .ok (.getstatic 38, 3) from by decide +kernel) ?_
  refine lv_if_eq (tgt := 17) hx hb (show decode prog_21_method_154_code 3 = .ok (.ifCond .eq 14, 3) from by decide +kernel) rfl (fun h => absurd h (by decide)) (fun _ => ?_)
  refine lv_aload_n hx hb (show decode prog_21_method_154_code 6 = .ok (.aload_n 0, 1) from by decide +kernel) rfl (lv_at hl 0 rfl) ?_
  refine vk_getf hx hb (hE.1.1 i hi).2.1 hS hown (hts _ wSf_cod) (fun _ h => h) (show decode prog_21_method_154_code 7 = .ok (.getfield 15, 3) from by decide +kernel) ?_
  refine lv_if_ne (tgt := 17) hx hb (show decode prog_21_method_154_code 10 = .ok (.ifCond .ne 7, 3) from by decide +kernel) rfl (fun h => absurd rfl h) (fun _ => ?_)
  refine lv_iconst (v := 1) hx hb (show decode prog_21_method_154_code 13 = .ok (.iconst 1, 1) from by decide +kernel) rfl ?_
  refine lv_goto (tgt := 18) hx hb (show decode prog_21_method_154_code 14 = .ok (.goto 4, 3) from by decide +kernel) rfl ?_
  exact x_zret hx hb hr (show narrow .boolean (.int 1) = .int 1 from rfl) (fun t ht hW => ⟨rfl, ht⟩) (fun q hq => nomatch hq) (show decode prog_21_method_154_code 18 = .ok (.ireturn, 1) from by decide +kernel) hlocks
theorem mS_length (l : Launch) (ρ adV : Nat → Nat) (sz : Nat) {i : Nat} (hi : i < 15) : Met l yS_length (Cond.code yS_length prog_21_method_54_code 1 (some .int) :: GW) (rmS 1) (PcS ρ adV [.ref (ρ (xstr0 + i))] sz) (QcS (some (.int (Int32.ofNat ((xTxt.map List.length).getD i 0))))) 0 0 (fun q => sz ≤ q) := by
  refine Met.ofW (cc := prog_21_method_54_code) (maxL := 1) (ret := (some .int)) (by decide +kernel) rfl ?_
  intro p e s m args below meth c s₁ B hml hv
  obtain ⟨rfl, hsz, hE⟩ := hv
  subst hsz
  have hx := B.exec
  have hb := B.bytes
  have hr := B.returns
  have hlocks := B.notSynchronized
  have hts0 := atoms_spec (ws := Cond.code yS_length prog_21_method_54_code 1 (some .int) :: GW) B.pre
  have hts : ∀ w ∈ GW, w.before _ s = true := fun w hw => hts0 w (List.mem_cons_of_mem _ hw)
  have hown : s.vm.findClass "java/lang/String" = some m.cls := findClass_of_methodNamed B.named
  have hS : va_S (fun q => s.heap.size ≤ q) s.heap s.heap [] := va_S.rf
  have hAn : ∀ q, s.heap.size ≤ q → (fun q => s.heap.size ≤ q) q := fun _ h => h
  have hl := lv_entry [.ref (ρ (xstr0 + i))] (n := 1) (Nat.le_of_ble_eq_true rfl)
  rw [lg_entry_eq]
  generalize (lg_sl [.ref (ρ (xstr0 + i))] ++ List.replicate (1 - (lg_sl [.ref (ρ (xstr0 + i))]).length) Slot.unset).toArray = real at hl ⊢
  have hl : lv_has real 1 [(0, .ref (ρ (xstr0 + i)))] := hl
  refine lv_aload_n hx hb (show decode prog_21_method_54_code 0 = .ok (.aload_n 0, 1) from by decide +kernel) rfl (lv_at hl 0 rfl) ?_
  refine vk_getf hx hb (hE.1.1 i hi).2.2.1 hS hown (hts _ wSf_val) (fun _ h => h) (show decode prog_21_method_54_code 1 = .ok (.getfield 9, 3) from by decide +kernel) ?_
  refine va_tlen hx hb (hE.1.1 i hi).2.2.2 hS rfl (show decode prog_21_method_54_code 4 = .ok (.arraylength, 1) from by decide +kernel) ?_
  refine lv_aload_n hx hb (show decode prog_21_method_54_code 5 = .ok (.aload_n 0, 1) from by decide +kernel) rfl (lv_at hl 0 rfl) ?_
  refine cs_virt (n := 0) (as := []) hx hb hml hown hts hE hS hAn hi (mS_coder l ρ adV _ hi) wS_coder wSl_len wSi_coder wSs_coder wSn_str (by decide +kernel) ⟨Nat.le_of_ble_eq_true rfl, Nat.le_of_ble_eq_true rfl⟩ rfl hl.1 (by simp [Value.category]) (Nat.zero_le _) (Nat.zero_le _) (show decode prog_21_method_54_code 6 = .ok (.invokevirtual 335, 3) from by decide +kernel) (fun locs1 hS1 => ?_)
  refine lv_ishr hx hb (show decode prog_21_method_54_code 9 = .ok (.ishr, 1) from by decide +kernel) ?_
  have e1 : ∀ x : Int32, x >>> ((0 : Int32) &&& 31) = x := fun x => by
    rw [show (0 : Int32) &&& 31 = 0 from rfl]
    exact Int32.shiftRight_zero
  rw [e1]
  exact W.iret hx hb hr (fun t ht hW => ⟨rfl, ht⟩) hS1.2.2 (show decode prog_21_method_54_code 10 = .ok (.ireturn, 1) from by decide +kernel)
theorem mS_pcheck (l : Launch) (ρ adV : Nat → Nat) (sz : Nat) {x n : Int32} {v : Value} (h0 : ¬ x < 0) (h1 : x < n) (hvv : v = .null ∨ ∃ t, v = .ref t) : Met l yS_pcheck (Cond.code yS_pcheck prog_28_method_11_code 3 (some .int) :: GW) (rmS 0) (PcS ρ adV [.int x, .int n, v] sz) (QcS (some (.int x))) 0 0 (fun q => sz ≤ q) := by
  refine Met.ofW (cc := prog_28_method_11_code) (maxL := 3) (ret := (some .int)) (by decide +kernel) rfl ?_
  intro p e s m args below meth c s₁ B hml hv
  obtain ⟨rfl, hsz, hE⟩ := hv
  subst hsz
  have hx := B.exec
  have hb := B.bytes
  have hr := B.returns
  have hlocks := B.notSynchronized
  have hts0 := atoms_spec (ws := Cond.code yS_pcheck prog_28_method_11_code 3 (some .int) :: GW) B.pre
  have hts : ∀ w ∈ GW, w.before _ s = true := fun w hw => hts0 w (List.mem_cons_of_mem _ hw)
  have hown : s.vm.findClass "jdk/internal/util/Preconditions" = some m.cls := findClass_of_methodNamed B.named
  have hS : va_S (fun q => s.heap.size ≤ q) s.heap s.heap [] := va_S.rf
  have hAn : ∀ q, s.heap.size ≤ q → (fun q => s.heap.size ≤ q) q := fun _ h => h
  have hl := lv_entry [.int x, .int n, v] (n := 3) (by rcases hvv with rfl | ⟨tq, rfl⟩ <;> exact Nat.le_of_ble_eq_true rfl)
  rw [lg_entry_eq]
  generalize (lg_sl [.int x, .int n, v] ++ List.replicate (3 - (lg_sl [.int x, .int n, v]).length) Slot.unset).toArray = real at hl ⊢
  have hl : lv_has real 3 [(0, .int x), (1, .int n), (2, v)] := hl
  refine lv_iload_n hx hb (show decode prog_28_method_11_code 0 = .ok (.iload_n 0, 1) from by decide +kernel) rfl (lv_at hl 0 rfl) ?_
  refine lv_if_lt (tgt := 9) hx hb (show decode prog_28_method_11_code 1 = .ok (.ifCond .lt 8, 3) from by decide +kernel) rfl (fun h => absurd h h0) (fun _ => ?_)
  refine lv_iload_n hx hb (show decode prog_28_method_11_code 4 = .ok (.iload_n 0, 1) from by decide +kernel) rfl (lv_at hl 0 rfl) ?_
  refine lv_iload_n hx hb (show decode prog_28_method_11_code 5 = .ok (.iload_n 1, 1) from by decide +kernel) rfl (lv_at hl 1 rfl) ?_
  refine lv_icmp_lt (tgt := 16) hx hb (show decode prog_28_method_11_code 6 = .ok (.if_icmp .lt 10, 3) from by decide +kernel) rfl (fun _ => ?_) (fun h => absurd h1 h)
  refine lv_iload_n hx hb (show decode prog_28_method_11_code 16 = .ok (.iload_n 0, 1) from by decide +kernel) rfl (lv_at hl 0 rfl) ?_
  exact W.iret hx hb hr (fun t ht hW => ⟨rfl, ht⟩) hS.2.2 (show decode prog_28_method_11_code 17 = .ok (.ireturn, 1) from by decide +kernel)
theorem mS_checkIndex (l : Launch) (ρ adV : Nat → Nat) (sz : Nat) {x n : Int32} (h0 : ¬ x < 0) (h1 : x < n) : Met l yS_checkIndex (Cond.code yS_checkIndex prog_21_method_155_code 2 none :: GW) (rmS 1) (PcS ρ adV [.int x, .int n] sz) (QcS none) 0 0 (fun q => sz ≤ q) := by
  refine Met.ofW (cc := prog_21_method_155_code) (maxL := 2) (ret := none) (by decide +kernel) rfl ?_
  intro p e s m args below meth c s₁ B hml hv
  obtain ⟨rfl, hsz, hE⟩ := hv
  subst hsz
  have hx := B.exec
  have hb := B.bytes
  have hr := B.returns
  have hlocks := B.notSynchronized
  have hts0 := atoms_spec (ws := Cond.code yS_checkIndex prog_21_method_155_code 2 none :: GW) B.pre
  have hts : ∀ w ∈ GW, w.before _ s = true := fun w hw => hts0 w (List.mem_cons_of_mem _ hw)
  have hown : s.vm.findClass "java/lang/String" = some m.cls := findClass_of_methodNamed B.named
  have hS : va_S (fun q => s.heap.size ≤ q) s.heap s.heap [] := va_S.rf
  have hAn : ∀ q, s.heap.size ≤ q → (fun q => s.heap.size ≤ q) q := fun _ h => h
  have hl := lv_entry [.int x, .int n] (n := 2) (Nat.le_of_ble_eq_true rfl)
  rw [lg_entry_eq]
  generalize (lg_sl [.int x, .int n] ++ List.replicate (2 - (lg_sl [.int x, .int n]).length) Slot.unset).toArray = real at hl ⊢
  have hl : lv_has real 2 [(0, .int x), (1, .int n)] := hl
  refine lv_iload_n hx hb (show decode prog_21_method_155_code 0 = .ok (.iload_n 0, 1) from by decide +kernel) rfl (lv_at hl 0 rfl) ?_
  refine lv_iload_n hx hb (show decode prog_21_method_155_code 1 = .ok (.iload_n 1, 1) from by decide +kernel) rfl (lv_at hl 1 rfl) ?_
  rcases hE.2.2 with hZ_ | ⟨tq, hZ_⟩
  ·
    refine va_gets hx hb hZ_ hS hown (hts _ wSf_fmt) (fun _ h => h) (show decode prog_21_method_155_code 2 = .ok (.getstatic 1053, 3) from by decide +kernel) ?_
    refine cs_stat (n := 3) (as := [.int x, .int n, .null]) hx hb hml hown hts hE hS hAn (mS_pcheck l ρ adV _ h0 h1 (Or.inl rfl)) wS_pcheck wSl_pck wSt_pck wSn_pre (by decide +kernel) ⟨Nat.le_of_ble_eq_true rfl, Nat.le_of_ble_eq_true rfl⟩ rfl hl.1 (by decide) (Nat.zero_le _) (Nat.zero_le _) (show decode prog_21_method_155_code 5 = .ok (.invokestatic 1059, 3) from by decide +kernel) (fun locs1 hS1 => ?_)
    refine lv_pop hx hb (show decode prog_21_method_155_code 8 = .ok (.pop, 1) from by decide +kernel) rfl ?_
    exact W.vret hx hb hr (fun t ht hW => ⟨rfl, ht⟩) hS1.2.2 (show decode prog_21_method_155_code 9 = .ok (.return_, 1) from by decide +kernel)
  ·
    refine va_gets hx hb hZ_ hS hown (hts _ wSf_fmt) (fun _ h => h) (show decode prog_21_method_155_code 2 = .ok (.getstatic 1053, 3) from by decide +kernel) ?_
    refine cs_stat (n := 3) (as := [.int x, .int n, .ref tq]) hx hb hml hown hts hE hS hAn (mS_pcheck l ρ adV _ h0 h1 (Or.inr ⟨_, rfl⟩)) wS_pcheck wSl_pck wSt_pck wSn_pre (by decide +kernel) ⟨Nat.le_of_ble_eq_true rfl, Nat.le_of_ble_eq_true rfl⟩ rfl hl.1 (by decide) (Nat.zero_le _) (Nat.zero_le _) (show decode prog_21_method_155_code 5 = .ok (.invokestatic 1059, 3) from by decide +kernel) (fun locs1 hS1 => ?_)
    refine lv_pop hx hb (show decode prog_21_method_155_code 8 = .ok (.pop, 1) from by decide +kernel) rfl ?_
    exact W.vret hx hb hr (fun t ht hW => ⟨rfl, ht⟩) hS1.2.2 (show decode prog_21_method_155_code 9 = .ok (.return_, 1) from by decide +kernel)
theorem mS_lcharAt (l : Launch) (ρ adV : Nat → Nat) (sz : Nat) {i : Nat} (hi : i < 15) {x : Int32} (h0 : ¬ x < 0) (h1 : x < Int32.ofNat ((xTxt.map List.length).getD i 0)) (h2 : vp_in x ((xTxt.map List.length).getD i 0)) {w : Int32} (hw : (((xByt.getD i []).getD x.toNatClampNeg 0) &&& 255).toUInt32 % 65536 = w.toUInt32) (hw2 : narrow .char (.int w) = .int w) : Met l yS_lcharAt (Cond.code yS_lcharAt prog_22_method_2_code 2 (some .char) :: GW) (rmS 2) (PcS ρ adV [.ref (adV i), .int x] sz) (QcS (some (.int w))) 0 0 (fun q => sz ≤ q) := by
  refine Met.ofW (cc := prog_22_method_2_code) (maxL := 2) (ret := (some .char)) (by decide +kernel) rfl ?_
  intro p e s m args below meth c s₁ B hml hv
  obtain ⟨rfl, hsz, hE⟩ := hv
  subst hsz
  have hx := B.exec
  have hb := B.bytes
  have hr := B.returns
  have hlocks := B.notSynchronized
  have hts0 := atoms_spec (ws := Cond.code yS_lcharAt prog_22_method_2_code 2 (some .char) :: GW) B.pre
  have hts : ∀ w ∈ GW, w.before _ s = true := fun w hw => hts0 w (List.mem_cons_of_mem _ hw)
  have hown : s.vm.findClass "java/lang/StringLatin1" = some m.cls := findClass_of_methodNamed B.named
  have hS : va_S (fun q => s.heap.size ≤ q) s.heap s.heap [] := va_S.rf
  have hAn : ∀ q, s.heap.size ≤ q → (fun q => s.heap.size ≤ q) q := fun _ h => h
  have hl := lv_entry [.ref (adV i), .int x] (n := 2) (Nat.le_of_ble_eq_true rfl)
  rw [lg_entry_eq]
  generalize (lg_sl [.ref (adV i), .int x] ++ List.replicate (2 - (lg_sl [.ref (adV i), .int x]).length) Slot.unset).toArray = real at hl ⊢
  have hl : lv_has real 2 [(0, .ref (adV i)), (1, .int x)] := hl
  refine lv_iload_n hx hb (show decode prog_22_method_2_code 0 = .ok (.iload_n 1, 1) from by decide +kernel) rfl (lv_at hl 1 rfl) ?_
  refine lv_aload_n hx hb (show decode prog_22_method_2_code 1 = .ok (.aload_n 0, 1) from by decide +kernel) rfl (lv_at hl 0 rfl) ?_
  refine va_tlen hx hb (hE.1.1 i hi).2.2.2 hS rfl (show decode prog_22_method_2_code 2 = .ok (.arraylength, 1) from by decide +kernel) ?_
  refine cs_stat (n := 2) (as := [.int x, .int (Int32.ofNat ((xTxt.map List.length).getD i 0))]) (rest := []) hx hb hml hown hts hE hS hAn (mS_checkIndex l ρ adV _ h0 h1) wS_checkIndex wSl_chk wSt_chk wSn_str (by decide +kernel) ⟨Nat.le_of_ble_eq_true rfl, Nat.le_of_ble_eq_true rfl⟩ rfl hl.1 (by decide) (Nat.zero_le _) (Nat.zero_le _) (show decode prog_22_method_2_code 3 = .ok (.invokestatic 9, 3) from by decide +kernel) (fun locs1 hS1 => ?_)
  refine lv_aload_n hx hb (show decode prog_22_method_2_code 6 = .ok (.aload_n 0, 1) from by decide +kernel) rfl (lv_at hl 0 rfl) ?_
  refine lv_iload_n hx hb (show decode prog_22_method_2_code 7 = .ok (.iload_n 1, 1) from by decide +kernel) rfl (lv_at hl 1 rfl) ?_
  refine va_tb hx hb (hE.1.1 i hi).2.2.2 hS1 h2 rfl (show decode prog_22_method_2_code 8 = .ok (.baload, 1) from by decide +kernel) ?_
  refine lv_sipush (v := 255) hx hb (show decode prog_22_method_2_code 9 = .ok (.sipush 255, 3) from by decide +kernel) rfl ?_
  refine lv_iand hx hb (show decode prog_22_method_2_code 12 = .ok (.iand, 1) from by decide +kernel) ?_
  refine lv_i2c (v := w) hx hb (show decode prog_22_method_2_code 13 = .ok (.i2c, 1) from by decide +kernel) (by rw [hw]; rfl) ?_
  exact x_zret hx hb hr hw2 (fun t ht hW => ⟨rfl, ht⟩) hS1.2.2 (show decode prog_22_method_2_code 14 = .ok (.ireturn, 1) from by decide +kernel) hlocks
theorem mS_charAt (l : Launch) (ρ adV : Nat → Nat) (sz : Nat) {i : Nat} (hi : i < 15) {x : Int32} (h0 : ¬ x < 0) (h1 : x < Int32.ofNat ((xTxt.map List.length).getD i 0)) (h2 : vp_in x ((xTxt.map List.length).getD i 0)) {w : Int32} (hw : (((xByt.getD i []).getD x.toNatClampNeg 0) &&& 255).toUInt32 % 65536 = w.toUInt32) (hw2 : narrow .char (.int w) = .int w) : Met l yS_charAt (Cond.code yS_charAt prog_21_method_56_code 2 (some .char) :: GW) (rmS 3) (PcS ρ adV [.ref (ρ (xstr0 + i)), .int x] sz) (QcS (some (.int w))) 0 0 (fun q => sz ≤ q) := by
  refine Met.ofW (cc := prog_21_method_56_code) (maxL := 2) (ret := (some .char)) (by decide +kernel) rfl ?_
  intro p e s m args below meth c s₁ B hml hv
  obtain ⟨rfl, hsz, hE⟩ := hv
  subst hsz
  have hx := B.exec
  have hb := B.bytes
  have hr := B.returns
  have hlocks := B.notSynchronized
  have hts0 := atoms_spec (ws := Cond.code yS_charAt prog_21_method_56_code 2 (some .char) :: GW) B.pre
  have hts : ∀ w ∈ GW, w.before _ s = true := fun w hw => hts0 w (List.mem_cons_of_mem _ hw)
  have hown : s.vm.findClass "java/lang/String" = some m.cls := findClass_of_methodNamed B.named
  have hS : va_S (fun q => s.heap.size ≤ q) s.heap s.heap [] := va_S.rf
  have hAn : ∀ q, s.heap.size ≤ q → (fun q => s.heap.size ≤ q) q := fun _ h => h
  have hl := lv_entry [.ref (ρ (xstr0 + i)), .int x] (n := 2) (Nat.le_of_ble_eq_true rfl)
  rw [lg_entry_eq]
  generalize (lg_sl [.ref (ρ (xstr0 + i)), .int x] ++ List.replicate (2 - (lg_sl [.ref (ρ (xstr0 + i)), .int x]).length) Slot.unset).toArray = real at hl ⊢
  have hl : lv_has real 2 [(0, .ref (ρ (xstr0 + i))), (1, .int x)] := hl
  refine lv_aload_n hx hb (show decode prog_21_method_56_code 0 = .ok (.aload_n 0, 1) from by decide +kernel) rfl (lv_at hl 0 rfl) ?_
  refine cs_virt (n := 0) (as := []) (rest := []) hx hb hml hown hts hE hS hAn hi (mS_isLatin1 l ρ adV _ hi) wS_isLatin1 wSl_isl wSi_isl wSs_isl wSn_str (by decide +kernel) ⟨Nat.le_of_ble_eq_true rfl, Nat.le_of_ble_eq_true rfl⟩ rfl hl.1 (by decide) (Nat.zero_le _) (Nat.zero_le _) (show decode prog_21_method_56_code 1 = .ok (.invokevirtual 492, 3) from by decide +kernel) (fun locs1 hS1 => ?_)
  refine lv_if_eq (tgt := 16) hx hb (show decode prog_21_method_56_code 4 = .ok (.ifCond .eq 12, 3) from by decide +kernel) rfl (fun h => absurd h (by decide)) (fun _ => ?_)
  refine lv_aload_n hx hb (show decode prog_21_method_56_code 7 = .ok (.aload_n 0, 1) from by decide +kernel) rfl (lv_at hl 0 rfl) ?_
  refine vk_getf hx hb (hE.1.1 i hi).2.2.1 hS1 hown (hts _ wSf_val) (fun _ h => h) (show decode prog_21_method_56_code 8 = .ok (.getfield 9, 3) from by decide +kernel) ?_
  refine lv_iload_n hx hb (show decode prog_21_method_56_code 11 = .ok (.iload_n 1, 1) from by decide +kernel) rfl (lv_at hl 1 rfl) ?_
  refine cs_stat (n := 2) (as := [.ref (adV i), .int x]) (rest := []) hx hb hml hown hts hE hS1 hAn (mS_lcharAt l ρ adV _ hi h0 h1 h2 hw hw2) wS_lcharAt wSl_lch wSt_lch wSn_lat (by decide +kernel) ⟨Nat.le_of_ble_eq_true rfl, Nat.le_of_ble_eq_true rfl⟩ rfl hl.1 (by decide) (Nat.zero_le _) (Nat.zero_le _) (show decode prog_21_method_56_code 12 = .ok (.invokestatic 495, 3) from by decide +kernel) (fun locs2 hS2 => ?_)
  exact x_zret hx hb hr hw2 (fun t ht hW => ⟨rfl, ht⟩) hS2.2.2 (show decode prog_21_method_56_code 15 = .ok (.ireturn, 1) from by decide +kernel) hlocks
