/-! printed by wip/whole/mk43.py: the law's loop -/
/-- what is left to show: each call of the class answers as the model's, and keeps the invariant -/
def Sims (Inv Inv2 : xSt → Prop) : Prop :=
  (∀ p1 p2 p3 p4 p5 : Int, in32 p1 → in32 p2 → in32 p3 → in32 p4 → in32 p5 → SimW Inv Inv2 (f_X_feed p1 p2 p3 p4 p5) (f_M_feed p1 p2 p3 p4 p5)) ∧
  (∀ p1 : Int, in32 p1 → SimW Inv Inv2 (f_X_end p1) (f_M_end p1)) ∧
  (SimW Inv Inv2 f_X_table f_M_table) ∧
  (SimR Inv Inv2 f_X_fault f_M_fault) ∧
  (∀ p1 p2 : Int, in32 p1 → in32 p2 → SimT Inv Inv2 (f_X_thing p1 p2) (f_M_thing p1 p2)) ∧
  (∀ p1 p2 : Int, in32 p1 → in32 p2 → SimR Inv Inv2 (f_X_side p1 p2) (f_M_side p1 p2)) ∧
  (∀ p1 p2 : Int, in32 p1 → in32 p2 → SimR Inv Inv2 (f_X_share p1 p2) (f_M_share p1 p2)) ∧
  (SimW Inv Inv2 f_X_way f_M_way) ∧
  (∀ p1 : Int, in32 p1 → SimR Inv Inv2 (f_X_node p1) (f_M_node p1)) ∧
  (∀ p1 : Int, in32 p1 → SimR Inv Inv2 (f_X_nodeOf p1) (f_M_nodeOf p1)) ∧
  (∀ p1 p2 : Int, in32 p1 → in32 p2 → SimR Inv Inv2 (f_X_next p1 p2) (f_M_next p1 p2)) ∧
  (SimR Inv Inv2 f_X_deep f_M_deep) ∧
  (∀ p1 p2 : Int, in32 p1 → in32 p2 → SimT Inv Inv2 (f_X_chance p1 p2) (f_M_chance p1 p2)) ∧
  (∀ p1 p2 p3 p4 : Int, in32 p1 → in32 p2 → in32 p3 → in32 p4 → SimT Inv Inv2 (f_X_chanceAt p1 p2 p3 p4) (f_M_chanceAt p1 p2 p3 p4)) ∧
  (∀ p1 p2 p3 : Int, in32 p1 → in32 p2 → in32 p3 → SimT Inv Inv2 (f_X_mean p1 p2 p3) (f_M_mean p1 p2 p3)) ∧
  (∀ p1 p2 p3 : Int, in32 p1 → in32 p2 → in32 p3 → SimT Inv Inv2 (f_X_poly p1 p2 p3) (f_M_poly p1 p2 p3)) ∧
  (∀ p1 p2 : Int, in32 p1 → in32 p2 → SimW Inv Inv2 (f_X_like p1 p2) (f_M_like p1 p2)) ∧
  (SimW Inv Inv2 f_X_even f_M_even) ∧
  (SimW Inv Inv2 f_X_evening f_M_evening) ∧
  (∀ p1 : Int, in32 p1 → SimR Inv Inv2 (f_X_judged p1) (f_M_judged p1)) ∧
  (SimW Inv Inv2 f_X_pairs f_M_pairs) ∧
  (SimW Inv Inv2 f_X_spared f_M_spared) ∧
  (SimW Inv Inv2 f_X_pasts f_M_pasts) ∧
  (SimW Inv Inv2 f_X_counted f_M_counted) ∧
  (∀ p1 : Int, in32 p1 → SimR Inv Inv2 (f_X_bit p1) (f_M_bit_ p1)) ∧
  (∀ p1 p2 p3 p4 : Int, in32 p1 → in32 p2 → in32 p3 → in32 p4 → SimT Inv Inv2 (f_X_countedMean p1 p2 p3 p4) (f_M_countedMean p1 p2 p3 p4)) ∧
  (SimW Inv Inv2 f_X_shared f_M_shared) ∧
  (SimR Inv Inv2 f_X_took f_M_took) ∧
  (∀ p1 : Int, in32 p1 → SimT Inv Inv2 (f_X_fewest p1) (f_M_fewest p1)) ∧
  (∀ p1 p2 : Int, in32 p1 → in32 p2 → SimR Inv Inv2 (f_X_nearest p1 p2) (f_M_nearest p1 p2)) ∧
  (∀ p1 p2 : Int, in32 p1 → in32 p2 → SimT Inv Inv2 (f_X_off p1 p2) (f_M_off p1 p2)) ∧
  (∀ p1 p2 p3 : Int, in32 p1 → in32 p2 → in32 p3 → SimT Inv Inv2 (f_X_mixed p1 p2 p3) (f_M_mixed p1 p2 p3)) ∧
  (∀ p1 p2 p3 : Int, in32 p1 → in32 p2 → in32 p3 → SimT Inv Inv2 (f_X_luck p1 p2 p3) (f_M_luck p1 p2 p3)) ∧
  (SimW Inv Inv2 f_X_runs f_M_runs) ∧
  (∀ p1 : Int, in32 p1 → SimT Inv Inv2 (f_X_seldom p1) (f_M_seldom p1)) ∧
  (SimW Inv Inv2 f_X_best f_M_best) ∧
  (∀ p1 : Int, in32 p1 → SimT Inv Inv2 (f_X_bestMean p1) (f_M_bestMean p1)) ∧
  (SimW Inv Inv2 f_X_take f_M_take) ∧
  (SimW Inv Inv2 f_X_write f_M_write) ∧
  (∀ p1 : Int, in32 p1 → SimR Inv Inv2 (f_X_byteAt p1) (f_M_byteAt p1)) ∧
  (∀ p1 p2 : Int, in32 p1 → in32 p2 → SimW Inv Inv2 (f_X_cast p1 p2) (f_M_cast p1 p2)) ∧
  (SimR Inv Inv2 f_X_tosses f_M_tosses) ∧
  (∀ p1 p2 p3 : Int, in32 p1 → in32 p2 → in32 p3 → SimW Inv Inv2 (f_X_casts p1 p2 p3) (f_M_casts p1 p2 p3)) ∧
  (SimW Inv Inv2 f_X_sentence f_M_sentence) ∧
  (∀ p1 : Int, in32 p1 → SimW Inv Inv2 (f_X_said p1) (f_M_said p1)) ∧
  (∀ p1 : Int, in32 p1 → SimW Inv Inv2 (f_X_image p1) (f_M_image p1)) ∧
  (∀ p1 : Int, in32 p1 → SimW Inv Inv2 (f_X_restore p1) (f_M_restore p1)) ∧
  (∀ p1 : Int, in32 p1 → SimR Inv Inv2 (f_X_count p1) (f_M_count p1))
section LOOP
variable {p : Program} {l : Launch} {e : Env} {R : Room} {s : State} {m : MethodId} {args : Array Value} {below : List Frame} {meth : Method} {c : Code} {Q : State → Prop}
variable {cs ρ adV : Nat → Nat} {dC : Nat → ClassId} {dI : Nat → Nat → Nat} {A : Nat → Prop}
set_option maxRecDepth 20000 in
set_option maxHeartbeats 4000000 in
theorem law_loop {Inv : Nat → xSt → Prop} {L : Nat} {f : Nat → Int} (h : LF p l R s m args c cs ρ adV dC dI A L f) (hsims : ∀ n, Sims (Inv (n + 1)) (Inv n)) (hmono : ∀ n σ, Inv (n + 1) σ → Inv n σ)
    (hend : ∀ (cells slots : Nat) (ls : xL) (σ : xSt), cells ≤ R.cells → slots ≤ R.slots → WS p l e R s m args below meth c cells slots Q cs ρ dC dI A s.heap 8 (1948, ls, [vI 1], σ)) :
    ∀ (n : Nat) (cells slots : Nat) (i : Int) (g5 g6 g7 : Option xV) (σ : xSt), 0 ≤ i → i ≤ 3078 → 3078 - i ≤ 6 * (n : Int) → cells + n + 1 ≤ R.cells → slots + 6 * n + 6 ≤ R.slots → Inv n σ → WS p l e R s m args below meth c cells slots Q cs ρ dC dI A s.heap 8 (23, [some (vR xscr), some (vR 0), some (vR 111), some (vR 139), some (vI i), g5, g6, g7], [], σ) := by
  have hL := h.2.2.2.2.2.2.2.1
  intro n
  induction n with
  | zero =>
    intro cells slots i g5 g6 g7 σ hi0 hi1 hn hc hs hI
    refine ws_go (rk := 2) (cd := kL_loop) (sc := some (L, f)) (h.1 cells slots (by omega) (by omega)) h.2.1 (h.str (by omega) (by omega)) cdL_loop 6 _ (if w32 ((L : Int) - 6) < i then (1947, [some (vR xscr), some (vR 0), some (vR 111), some (vR 139), some (vI i), g5, g6, g7], [], σ) else (33, [some (vR xscr), some (vR 0), some (vR 111), some (vR 139), some (vI i), g5, g6, g7], [], σ)) (true && (true && (true && (true && (true && (true && true)))))) rfl rfl ?_
    rw [w32_id ⟨by omega, by omega⟩, if_pos (by omega)]
    refine ws_go (rk := 2) (cd := kL_loop) (sc := some (L, f)) (h.1 cells slots (by omega) (by omega)) h.2.1 (h.str (by omega) (by omega)) cdL_loop 1 _ (1948, [some (vR xscr), some (vR 0), some (vR 111), some (vR 139), some (vI i), g5, g6, g7], [vI 1], σ) (true && true) rfl rfl ?_
    exact hend cells slots _ σ (by omega) (by omega)
  | succ n ih =>
    intro cells slots i g5 g6 g7 σ hi0 hi1 hn hc hs hI
    obtain ⟨h0, h1, h2, h3, h4, h5, h6, h7, h8, h9, h10, h11, h12, h13, h14, h15, h16, h17, h18, h19, h20, h21, h22, h23, h24, h25, h26, h27, h28, h29, h30, h31, h32, h33, h34, h35, h36, h37, h38, h39, h40, h41, h42, h43, h44, h45, h46, h47⟩ := hsims n
    refine ws_go (rk := 2) (cd := kL_loop) (sc := some (L, f)) (h.1 cells slots (by omega) (by omega)) h.2.1 (h.str (by omega) (by omega)) cdL_loop 6 _ (if w32 ((L : Int) - 6) < i then (1947, [some (vR xscr), some (vR 0), some (vR 111), some (vR 139), some (vI i), g5, g6, g7], [], σ) else (33, [some (vR xscr), some (vR 0), some (vR 111), some (vR 139), some (vI i), g5, g6, g7], [], σ)) (true && (true && (true && (true && (true && (true && true)))))) rfl rfl ?_
    rw [w32_id (x := (L : Int) - 6) ⟨by omega, by omega⟩]
    refine ws_ite (fun _ => ?_) (fun hge_ => ?_)
    · refine ws_go (rk := 2) (cd := kL_loop) (sc := some (L, f)) (h.1 cells slots (by omega) (by omega)) h.2.1 (h.str (by omega) (by omega)) cdL_loop 1 _ (1948, [some (vR xscr), some (vR 0), some (vR 111), some (vR 139), some (vI i), g5, g6, g7], [vI 1], σ) (true && true) rfl rfl ?_
      exact hend cells slots _ σ (by omega) (by omega)
    have hiL : i ≤ (L : Int) - 6 := by omega
    have hnext : ∀ (cells2 slots2 : Nat) (g5 g6 g7 : Option xV) (σ2 : xSt), cells2 ≤ cells + 1 → slots2 ≤ slots + 6 → Inv n σ2 → WS p l e R s m args below meth c cells2 slots2 Q cs ρ dC dI A s.heap 8 (1941, [some (vR xscr), some (vR 0), some (vR 111), some (vR 139), some (vI i), g5, g6, g7], [], σ2) := by
      intro cells2 slots2 g5 g6 g7 σ2 h1 h2 h3
      refine ws_go (rk := 2) (cd := kL_loop) (sc := some (L, f)) (h.1 cells2 slots2 (by omega) (by omega)) h.2.1 (h.str (by omega) (by omega)) cdL_loop 2 _ (23, [some (vR xscr), some (vR 0), some (vR 111), some (vR 139), some (vI (w32 (i + 6))), g5, g6, g7], [], σ2) (true && (true && true)) rfl rfl ?_
      rw [w32_id ⟨by omega, by omega⟩]
      exact ih cells2 slots2 (i + 6) g5 g6 g7 σ2 (by omega) (by omega) (by omega) (by omega) (by omega) h3
    have hxi_ : xin i L = true := decide_eq_true ⟨by omega, by omega⟩
    refine ws_go (rk := 2) (cd := kL_loop) (sc := some (L, f)) (h.1 cells slots (by omega) (by omega)) h.2.1 (h.str (by omega) (by omega)) cdL_loop 6 _ (xtab 40 [some (vR xscr), some (vR 0), some (vR 111), some (vR 139), some (vI i), g5, g6, g7] [] σ (xand (f i.toNat) 63) 1901 0 [208, 281, 306, 319, 332, 400, 437, 474, 487, 512, 537, 574, 587, 654, 745, 824, 903, 940, 953, 966, 991, 1004, 1017, 1030, 1043, 1068, 1159, 1172, 1185, 1240, 1277, 1344, 1423, 1502, 1515, 1570, 1583, 1638, 1651, 1664, 1689, 1726, 1739, 1788, 1801, 1826, 1851, 1876]) (true && (true && (xin i L && (true && (true && (true && true)))))) rfl (by simp only [hxi_, Bool.and_self, Bool.and_true, Bool.true_and]) ?_
    refine ws_ite (fun _ => ?_) (fun _ => ?_)
    · exact lc_feed h (by omega) (by omega) h0 hi0 hiL hI hnext
    refine ws_ite (fun _ => ?_) (fun _ => ?_)
    · exact lc_end h (by omega) (by omega) h1 hi0 hiL hI hnext
    refine ws_ite (fun _ => ?_) (fun _ => ?_)
    · exact lc_table h (by omega) (by omega) h2 hi0 hiL hI hnext
    refine ws_ite (fun _ => ?_) (fun _ => ?_)
    · exact lc_fault h (by omega) (by omega) h3 hi0 hiL hI hnext
    refine ws_ite (fun _ => ?_) (fun _ => ?_)
    · exact lc_thing h (by omega) (by omega) h4 hi0 hiL hI hnext
    refine ws_ite (fun _ => ?_) (fun _ => ?_)
    · exact lc_side h (by omega) (by omega) h5 hi0 hiL hI hnext
    refine ws_ite (fun _ => ?_) (fun _ => ?_)
    · exact lc_share h (by omega) (by omega) h6 hi0 hiL hI hnext
    refine ws_ite (fun _ => ?_) (fun _ => ?_)
    · exact lc_way h (by omega) (by omega) h7 hi0 hiL hI hnext
    refine ws_ite (fun _ => ?_) (fun _ => ?_)
    · exact lc_node h (by omega) (by omega) h8 hi0 hiL hI hnext
    refine ws_ite (fun _ => ?_) (fun _ => ?_)
    · exact lc_nodeOf h (by omega) (by omega) h9 hi0 hiL hI hnext
    refine ws_ite (fun _ => ?_) (fun _ => ?_)
    · exact lc_next h (by omega) (by omega) h10 hi0 hiL hI hnext
    refine ws_ite (fun _ => ?_) (fun _ => ?_)
    · exact lc_deep h (by omega) (by omega) h11 hi0 hiL hI hnext
    refine ws_ite (fun _ => ?_) (fun _ => ?_)
    · exact lc_chance h (by omega) (by omega) h12 hi0 hiL hI hnext
    refine ws_ite (fun _ => ?_) (fun _ => ?_)
    · exact lc_chanceAt h (by omega) (by omega) h13 hi0 hiL hI hnext
    refine ws_ite (fun _ => ?_) (fun _ => ?_)
    · exact lc_mean h (by omega) (by omega) h14 hi0 hiL hI hnext
    refine ws_ite (fun _ => ?_) (fun _ => ?_)
    · exact lc_poly h (by omega) (by omega) h15 hi0 hiL hI hnext
    refine ws_ite (fun _ => ?_) (fun _ => ?_)
    · exact lc_like h (by omega) (by omega) h16 hi0 hiL hI hnext
    refine ws_ite (fun _ => ?_) (fun _ => ?_)
    · exact lc_even h (by omega) (by omega) h17 hi0 hiL hI hnext
    refine ws_ite (fun _ => ?_) (fun _ => ?_)
    · exact lc_evening h (by omega) (by omega) h18 hi0 hiL hI hnext
    refine ws_ite (fun _ => ?_) (fun _ => ?_)
    · exact lc_judged h (by omega) (by omega) h19 hi0 hiL hI hnext
    refine ws_ite (fun _ => ?_) (fun _ => ?_)
    · exact lc_pairs h (by omega) (by omega) h20 hi0 hiL hI hnext
    refine ws_ite (fun _ => ?_) (fun _ => ?_)
    · exact lc_spared h (by omega) (by omega) h21 hi0 hiL hI hnext
    refine ws_ite (fun _ => ?_) (fun _ => ?_)
    · exact lc_pasts h (by omega) (by omega) h22 hi0 hiL hI hnext
    refine ws_ite (fun _ => ?_) (fun _ => ?_)
    · exact lc_counted h (by omega) (by omega) h23 hi0 hiL hI hnext
    refine ws_ite (fun _ => ?_) (fun _ => ?_)
    · exact lc_bit h (by omega) (by omega) h24 hi0 hiL hI hnext
    refine ws_ite (fun _ => ?_) (fun _ => ?_)
    · exact lc_countedMean h (by omega) (by omega) h25 hi0 hiL hI hnext
    refine ws_ite (fun _ => ?_) (fun _ => ?_)
    · exact lc_shared h (by omega) (by omega) h26 hi0 hiL hI hnext
    refine ws_ite (fun _ => ?_) (fun _ => ?_)
    · exact lc_took h (by omega) (by omega) h27 hi0 hiL hI hnext
    refine ws_ite (fun _ => ?_) (fun _ => ?_)
    · exact lc_fewest h (by omega) (by omega) h28 hi0 hiL hI hnext
    refine ws_ite (fun _ => ?_) (fun _ => ?_)
    · exact lc_nearest h (by omega) (by omega) h29 hi0 hiL hI hnext
    refine ws_ite (fun _ => ?_) (fun _ => ?_)
    · exact lc_off h (by omega) (by omega) h30 hi0 hiL hI hnext
    refine ws_ite (fun _ => ?_) (fun _ => ?_)
    · exact lc_mixed h (by omega) (by omega) h31 hi0 hiL hI hnext
    refine ws_ite (fun _ => ?_) (fun _ => ?_)
    · exact lc_luck h (by omega) (by omega) h32 hi0 hiL hI hnext
    refine ws_ite (fun _ => ?_) (fun _ => ?_)
    · exact lc_runs h (by omega) (by omega) h33 hi0 hiL hI hnext
    refine ws_ite (fun _ => ?_) (fun _ => ?_)
    · exact lc_seldom h (by omega) (by omega) h34 hi0 hiL hI hnext
    refine ws_ite (fun _ => ?_) (fun _ => ?_)
    · exact lc_best h (by omega) (by omega) h35 hi0 hiL hI hnext
    refine ws_ite (fun _ => ?_) (fun _ => ?_)
    · exact lc_bestMean h (by omega) (by omega) h36 hi0 hiL hI hnext
    refine ws_ite (fun _ => ?_) (fun _ => ?_)
    · exact lc_take h (by omega) (by omega) h37 hi0 hiL hI hnext
    refine ws_ite (fun _ => ?_) (fun _ => ?_)
    · exact lc_write h (by omega) (by omega) h38 hi0 hiL hI hnext
    refine ws_ite (fun _ => ?_) (fun _ => ?_)
    · exact lc_byteAt h (by omega) (by omega) h39 hi0 hiL hI hnext
    refine ws_ite (fun _ => ?_) (fun _ => ?_)
    · exact lc_cast h (by omega) (by omega) h40 hi0 hiL hI hnext
    refine ws_ite (fun _ => ?_) (fun _ => ?_)
    · exact lc_tosses h (by omega) (by omega) h41 hi0 hiL hI hnext
    refine ws_ite (fun _ => ?_) (fun _ => ?_)
    · exact lc_casts h (by omega) (by omega) h42 hi0 hiL hI hnext
    refine ws_ite (fun _ => ?_) (fun _ => ?_)
    · exact lc_sentence h (by omega) (by omega) h43 hi0 hiL hI hnext
    refine ws_ite (fun _ => ?_) (fun _ => ?_)
    · exact lc_said h (by omega) (by omega) h44 hi0 hiL hI hnext
    refine ws_ite (fun _ => ?_) (fun _ => ?_)
    · exact lc_image h (by omega) (by omega) h45 hi0 hiL hI hnext
    refine ws_ite (fun _ => ?_) (fun _ => ?_)
    · exact lc_restore h (by omega) (by omega) h46 hi0 hiL hI hnext
    refine ws_ite (fun _ => ?_) (fun _ => ?_)
    · exact lc_count h (by omega) (by omega) h47 hi0 hiL hI hnext
    exact hnext cells slots _ _ _ σ (by omega) (by omega) (hmono n σ hI)
end LOOP
