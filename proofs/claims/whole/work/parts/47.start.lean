/-! THE LAW, FROM ITS ENTRY: out of an invariant of the class and the model -/
section START
variable {p : Program} {l : Launch} {e : Env} {s : State} {m : MethodId} {below : List Frame} {meth : Method} {c : Code} {Q : State → Prop}
set_option maxHeartbeats 2000000 in
theorem start_ok {Inv : Nat → xSt → Prop} (hI0 : Inv 513 xInit) (hS0 : ∀ n, Sims (Inv (n + 1)) (Inv n)) (hmono : ∀ n σ, Inv (n + 1) σ → Inv n σ) (hflags : l.stackTraces = false) {b L : Nat} {xs : Nat → Int32} (hL : L ≤ 3072) (hx : p.tables.exec = Jvm.exec) (hb : c.code = cL_law) (hml : c.maxLocals = 8) (hown : s.vm.findClass (cnm 13) = some m.cls)
    (hts : ∀ w ∈ lw_tbl, w.before #[Value.ref b] s = true) (hX : va_X b L xs s s.heap) (hbl : b < s.heap.size) (hgv : (Jvm.Cond.and given_1 narrow_1).before #[Value.ref b] s = true)
    (hend : ∀ (pc : Nat) (H : Heap) (ls : Array Slot), decode cL_law pc = .ok (.ireturn, 1) → W p l e room_1 s m #[Value.ref b] below meth c H [] 601024 7293034 Q (F0 m pc ls [.int 1])) : W p l e room_1 s m #[Value.ref b] below meth c s.heap [] 0 0 Q (entryFrame m ([Value.ref b] : List Value).toArray 8) := by
  have hG : ∀ w ∈ GW, w.before #[Value.ref b] s = true := fun w hw => hts w (List.mem_filter.mp hw).1
  obtain ⟨dC, dI, cs, hK, hAO⟩ := va_K_of hts
  obtain ⟨adK, adV, hStr⟩ := strEnv_of hts hgv
  have hThr := thrEnv_of hts hgv
  have hNW := nws_of hts
  obtain ⟨W0, hW0, hsh, hinr, hsl0⟩ := bLawC_ex
  obtain ⟨ρ0, hρ0⟩ : ∃ ρ0 : Nat → Nat, ρ0 = fun k => if k = xscr then b else adK (k - xstr0) := ⟨_, rfl⟩
  have h0s : ρ0 xscr = b := by rw [hρ0]; exact if_pos rfl
  have h0k : ∀ k, k < 15 → ρ0 (xstr0 + k) = adK k := by
    intro k hk
    rw [hρ0]
    show (if xstr0 + k = xscr then b else adK (xstr0 + k - xstr0)) = adK k
    rw [if_neg (by unfold xstr0 xscr; omega), Nat.add_sub_cancel_left]
  have F : FrB p room_1 s m #[Value.ref b] meth c cL_law cs dC dI (fun q => s.heap.size ≤ q) s.heap 8 13 := ⟨hx, hb, hml, hown, hG, hNW, hK, hAO, fun h => absurd h (by decide), fun q hq => hq, by decide, by decide⟩
  obtain ⟨σi, hσi0⟩ : ∃ σi : xSt, σi = xInit := ⟨_, rfl⟩
  rw [← hσi0] at hI0
  have hσi : ∀ a k, σi a k = match W0[a]? with
    | some (_, len, f) => if k < len then bNum (f k) else 0
    | none => 0 := fun a k => by rw [hσi0]; exact xInit_of hW0 a k
  clear hσi0
  have hrun := brun_ok (l := l) (e := e) (below := below) (Q := Q) (n0 := 0) (m0 := 0) (ρ0 := ρ0) (d := 5) F (by decide) (by decide) (fun pc i len hi => ⟨cdL_entry pc i len hi, bCk_L pc i len hi⟩) (callC_mono 5) (fun ci as W W' h h2 => metB_ok 5 ci as W W' h h2) 2000 _ _ hW0
    ⟨by
      unfold bShape at hsh
      simp only [Bool.and_eq_true] at hsh
      rw [Nat.eq_of_beq_eq_true hsh.1]
      decide, by
      show bSl W0 ≤ 0 + 7293034
      omega⟩ ?_
  · rw [lg_entry_eq]
    have hl := lv_entry ([Value.ref b]) (n := 8) (Nat.le_of_ble_eq_true rfl)
    refine hrun ρ0 s.heap [] _ 0 0 (fun k _ => rfl) (fun k q h => nomatch h) ⟨(fun i j p q h => nomatch h), (fun k q h => nomatch h)⟩ va_S.rf (lv_more hl (fun q hq => ?_)) rfl rfl rfl
    have h1 := lvL_of (ρ := ρ0) (as := [vR xscr]) (n := 8) q hq
    have h2 : ([vR xscr] : List xV).map (emb ρ0) = [Value.ref b] := by
      show [Value.ref (ρ0 xscr)] = [Value.ref b]
      rw [h0s]
    rw [h2] at h1
    exact h1
  · intro _ ρ H locs real cells slots hag hP hD hS hl hn hce hsl
    change va_P (dC, dI) vwCl (bwd cs ρ W0) H at hP
    change va_D (fun q => s.heap.size ≤ q) (bwd cs ρ W0) at hD
    change cells + 0 = W0.length at hce
    change slots + 0 = bSl W0 at hsl
    have hlen : W0.length = xNA := by
      unfold bShape at hsh
      simp only [Bool.and_eq_true] at hsh
      exact Nat.eq_of_beq_eq_true hsh.1
    have hat : ∀ a, a < xNA → ∃ cz, (bwd cs ρ W0)[a]? = some (ρ a, bE cs ρ cz) := by
      intro a ha
      refine ⟨W0[a]'(by omega), ?_⟩
      rw [bwd_at, List.getElem?_eq_getElem (by omega)]
      rfl
    have hinj : ∀ a b, a < xNA → b < xNA → ρ a = ρ b → a = b := by
      intro a b' ha hb' hab
      obtain ⟨c1, h1⟩ := hat a ha
      obtain ⟨c2, h2⟩ := hat b' hb'
      exact hD.1 a b' _ _ h1 h2 hab
    have hAr : ∀ a, a < xNA → s.heap.size ≤ ρ a := by
      intro a ha
      obtain ⟨c1, h1⟩ := hat a ha
      exact hD.2 a _ h1
    have hscr : ρ xscr = b := by rw [hag xscr (Or.inr (by decide)), h0s]
    have hE : StrEnv ρ adV (fun q => s.heap.size ≤ q) s := hStr ρ (fun k hk => by rw [hag (xstr0 + k) (Or.inr (by unfold xstr0 xNA; omega)), h0k k hk])
    have hLF : LF p l room_1 s m #[Value.ref b] c cs ρ adV dC dI (fun q => s.heap.size ≤ q) L (fun j => (xs j).toInt) := by
      refine ⟨fun cells slots h1 h2 => ⟨hx, hb, hml, hown, hG, hNW, hK, hinj, hAr, hE.1 13, by decide, by decide, h1, h2⟩, ?_, hE, hThr, fun q hq => hq, by decide, by decide, hL, hflags⟩
      intro n f hq
      cases hq
      exact ⟨xs, by rw [hscr]; exact hX, by rw [hscr]; exact hbl, by rw [hscr]; exact Nat.not_le.mpr hbl, by omega, rfl⟩
    have hlp := law_loop (e := e) (below := below) (meth := meth) (Q := Q) hLF hS0 hmono (fun cells slots ls σ h1 h2 => by
      intro H locs real hR
      obtain ⟨g1, g2, g3, g4, g5, g6, g7⟩ := hR
      refine va_forget (fun q hq => g2.2.2 q hq) ?_
      refine W.widen (k := 601024) (n := 7293034) h1 h2 ?_
      exact hend 1948 H real (cdL_loop _ _ _ (show kL_loop 1948 = some (.ireturn, 1) from rfl)).1) 513 cells slots 0 none none none σi (by omega) (by omega) (by omega) (by show cells + 513 + 1 ≤ 601024; unfold xNA at hlen; omega) (by show slots + 6 * 513 + 6 ≤ 7293034; omega) hI0
    refine hlp H locs real ⟨bwd_wd hσi hsh hP, hS, xIni_in hσi hinr, hl, hn, fun v hv => ?_, fun v hv => nomatch hv⟩
    simp only [List.mem_cons, Option.some.injEq, reduceCtorEq, List.not_mem_nil, or_false] at hv
    rcases hv with rfl | rfl | rfl | rfl | rfl
    · trivial
    · trivial
    · trivial
    · trivial
    · exact n_in0
end START
