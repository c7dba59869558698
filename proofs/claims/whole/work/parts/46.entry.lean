/-! printed by wip/whole/mk46.py: the world at the law's loop; what the start gives -/
theorem arrV_ext {cI : ClassId} {N : Nat} {f g : Nat → Value} (h : ∀ j, j < N → f j = g j) : arrV cI N f = arrV cI N g := by
  unfold arrV
  congr 1
  congr 1
  funext j
  exact h j.val j.isLt
def bLawChk : Option bS → Bool
  | some (pc, ls, [], W) => Nat.beq pc 23 && bShape W && bInR W && Nat.ble (bSl W) 100000 && decide (ls = [some (vR xscr), some (vR 0), some (vR 111), some (vR 139), some (vI 0), none, none, none])
  | _ => false
theorem bLawChk_ok : bLawChk bLawC = true := by decide +kernel
theorem bLawChk_of {o : Option bS} (h : bLawChk o = true) : ∃ W : bW, o = some (23, [some (vR xscr), some (vR 0), some (vR 111), some (vR 139), some (vI 0), none, none, none], [], W) ∧ bShape W = true ∧ bInR W = true ∧ bSl W ≤ 100000 := by
  unfold bLawChk at h
  split at h
  · rename_i pc ls W
    simp only [Bool.and_eq_true, decide_eq_true_eq] at h
    obtain ⟨⟨⟨⟨h1, h2⟩, h3⟩, h4⟩, h5⟩ := h
    have h1 := Nat.eq_of_beq_eq_true h1
    subst h1
    subst h5
    exact ⟨W, rfl, h2, h3, Nat.le_of_ble_eq_true h4⟩
  · exact nomatch h
/-- the law comes to its loop -/
theorem bLawC_ex : ∃ W : bW, bLawC = some (23, [some (vR xscr), some (vR 0), some (vR 111), some (vR 139), some (vI 0), none, none, none], [], W) ∧ bShape W = true ∧ bInR W = true ∧ bSl W ≤ 100000 := bLawChk_of bLawChk_ok
def xIni (o : Option bS) : xSt := fun a k => match o with
  | some (_, _, _, W) => match W[a]? with
    | some (_, len, f) => if k < len then bNum (f k) else 0
    | none => 0
  | none => 0
theorem xInit_ini : xInit = xIni bLawC := rfl
theorem xInit_of {pc : Nat} {ls : xL} {st : List xV} {W : bW} (h : bLawC = some (pc, ls, st, W)) (a k : Nat) : xInit a k = match W[a]? with
    | some (_, len, f) => if k < len then bNum (f k) else 0
    | none => 0 := by
  rw [xInit_ini, h]
  rfl
theorem xInit_in {pc : Nat} {ls : xL} {st : List xV} {W : bW} (h : bLawC = some (pc, ls, st, W)) (hW : bInR W = true) : InR xInit := by
  intro a k
  have key : -100000 ≤ xInit a k ∧ xInit a k < 100000 := by
    rw [xInit_of h]
    split
    · rename_i kd len f hc
      split
      · rename_i hk
        have h1 := List.all_eq_true.mp (List.all_eq_true.mp hW _ (List.mem_of_getElem? hc)) k (List.mem_range.mpr hk)
        exact of_decide_eq_true h1
      · omega
    · omega
  split
  · exact ⟨by omega, by omega⟩
  · exact ⟨by omega, by omega⟩
theorem bwd_wd {cs ρ : Nat → Nat} {dC : Nat → ClassId} {dI : Nat → Nat → Nat} {H : Heap} {pc : Nat} {ls : xL} {st : List xV} {W : bW} (h : bLawC = some (pc, ls, st, W)) (hs : bShape W = true) (hP : va_P (dC, dI) vwCl (bwd cs ρ W) H) : va_P (dC, dI) vwCl (wd cs ρ xInit) H := by
  unfold bShape at hs
  simp only [Bool.and_eq_true] at hs
  have hlen := Nat.eq_of_beq_eq_true hs.1
  intro a q hq
  obtain ⟨ha, rfl⟩ := wd_inv hq
  have h1 := List.all_eq_true.mp hs.2 a (List.mem_range.mpr ha)
  split at h1
  case h_2 => exact nomatch h1
  case h_1 kd len f hc =>
  have h2 := hP a (ρ a, bE cs ρ (kd, len, f)) (by rw [bwd_at, hc]; rfl)
  have hx : ∀ k, xInit a k = if k < len then bNum (f k) else 0 := fun k => by rw [xInit_of h, hc]
  simp only [Bool.and_eq_true] at h1
  obtain ⟨hk, h1⟩ := h1
  have hk := Nat.eq_of_beq_eq_true hk
  subst hk
  cases hb : Nat.blt (lay a).1 13 with
  | true =>
    rw [hb] at h1
    have hl13 : (lay a).1 < 13 := Nat.le_of_ble_eq_true hb
    simp only [cond_true, Bool.and_eq_true] at h1
    have hn := Nat.eq_of_beq_eq_true h1.1
    subst hn
    rw [cellE_obj _ _ _ hl13]
    rw [bE_obj hl13] at h2
    have he : (List.range (nf (lay a).1)).map (fun k => emb ρ (f k)) = (List.range (nf (lay a).1)).map (fun k => emb ρ (fval (lay a).1 k a xInit)) := by
      apply List.map_congr_left
      intro k hk
      have h3 := List.all_eq_true.mp h1.2 k hk
      have hkl := List.mem_range.mp hk
      have hxk := hx k
      rw [if_pos hkl] at hxk
      congr 1
      unfold fval
      split at h3
      · rename_i x hf
        rw [hf] at hxk
        simp only [Bool.or_eq_true] at h3
        rw [hf, hxk]
        rcases h3 with h3 | h3
        · rw [Nat.eq_of_beq_eq_true h3]
          rfl
        · rw [Nat.eq_of_beq_eq_true h3]
          rfl
      · rename_i x hf
        rw [hf] at hxk
        rw [hf, hxk, Nat.eq_of_beq_eq_true h3]
        rfl
      · rename_i b hf
        simp only [Bool.and_eq_true] at h3
        rw [hf, Nat.eq_of_beq_eq_true h3.1, Nat.eq_of_beq_eq_true h3.2]
      · exact nomatch h3
    rw [he] at h2
    exact h2
  | false =>
    rw [hb] at h1
    simp only [cond_false, Bool.and_eq_true] at h1
    have hn := Nat.eq_of_beq_eq_true h1.1
    subst hn
    have h13 : ¬ (lay a).1 < 13 := fun z => by
      have := Nat.ble_eq_true_of_le (n := (lay a).1 + 1) (m := 13) z
      rw [show Nat.ble ((lay a).1 + 1) 13 = Nat.blt (lay a).1 13 from rfl, hb] at this
      cases this
    by_cases h23 : (lay a).1 = 23
    · rw [cellE_long _ _ _ h23]
      rw [h23, bE_long] at h2
      have h3 : H[ρ a]? = some (vp_cell (cs 23) ((lay a).2, .inr (.inl (fun i => Int64.ofInt (bNum (f i)))))) := h2
      show H[ρ a]? = some (vp_cell (cs 23) ((lay a).2, .inr (.inl (fun i => Int64.ofInt (xInit a i)))))
      rw [h3, vp_cell_l, vp_cell_l]
      congr 1
      exact arrV_ext (fun j hj => by rw [hx j, if_pos hj])
    · by_cases h24 : (lay a).1 = 24
      · rw [cellE_st _ _ _ h24]
        rw [h24, bE_ref] at h2
        rw [h24] at h1
        have h3 : H[ρ a]? = some (vp_cell (cs 24) ((lay a).2, .inr (.inr (.inr (.inr (fun i => bRef ρ (if i < (lay a).2 then f i else vN))))))) := h2
        show H[ρ a]? = some (vp_cell (cs 24) ((lay a).2, .inr (.inr (.inr (.inr (fun i => some (ρ (imref i))))))))
        rw [h3, vp_cell_q, vp_cell_q]
        congr 1
        refine arrV_ext (fun j hj => ?_)
        have h4 := List.all_eq_true.mp (show (List.range (lay a).2).all (fun i => match f i with | .inr (.inr (some b)) => Nat.beq b (imref i) | _ => false) = true from h1.2) j (List.mem_range.mpr hj)
        rw [if_pos hj]
        split at h4
        · rename_i b hf
          rw [hf, Nat.eq_of_beq_eq_true h4]
          rfl
        · exact nomatch h4
      · have hor : (lay a).1 = 20 ∨ (lay a).1 = 21 ∨ (lay a).1 = 22 := by
          have h5 := List.all_eq_true.mp lay_all a (List.mem_range.mpr ha)
          rw [hb] at h5
          simp only [Bool.false_and, Bool.false_or, Bool.and_eq_true] at h5
          have h6 := Nat.le_of_ble_eq_true h5.1.1
          have h7 := Nat.le_of_ble_eq_true h5.1.2
          omega
        rw [cellE_int _ _ _ hor]
        rw [bE_int hor] at h2
        have h3 : H[ρ a]? = some (vp_cell (cs (lay a).1) ((lay a).2, .inl (fun i => Int32.ofInt (bNum (f i))))) := h2
        show H[ρ a]? = some (vp_cell (cs (lay a).1) ((lay a).2, .inl (fun i => Int32.ofInt (xInit a i))))
        rw [h3, vp_cell_i, vp_cell_i]
        congr 1
        exact arrV_ext (fun j hj => by rw [hx j, if_pos hj])
/-- the terms of the texts -/
def sTm : Nat → Term
  | 0 => .string "BentPenny$Judge" 40
  | 1 => .string "BentPenny$Sentence" 48
  | 2 => .string "BentPenny$Sentence" 64
  | 3 => .string "BentPenny$Sentence" 66
  | 4 => .string "BentPenny$Sentence" 72
  | 5 => .string "BentPenny$Sentence" 74
  | 6 => .string "BentPenny$Sentence" 76
  | 7 => .string "BentPenny$Sentence" 78
  | 8 => .string "BentPenny$Sentence" 80
  | 9 => .string "BentPenny$Table" 85
  | 10 => .string "BentPenny$Table" 93
  | 11 => .string "BentPenny$Table" 98
  | 12 => .string "BentPenny$Table" 125
  | 13 => .string "BentPenny$Tokens" 77
  | _ => .string "BentPenny$Way" 98
def sNar : List Cond := flatC (Jvm.Cond.and given_1 narrow_1)
def nIs (p : Nat) (w : Cond) : Bool := decide (sNar[p]? = some w)
theorem nIs_mem {p : Nat} {w : Cond} (h : nIs p w = true) : w ∈ sNar := List.mem_of_getElem? (of_decide_eq_true h)
def sP1 : List (Nat × Nat × Nat × Nat) := [(154, 155, 156, 157), (295, 296, 297, 298), (275, 276, 277, 278), (166, 167, 168, 169), (180, 181, 182, 183), (197, 198, 199, 200), (215, 216, 217, 218), (234, 235, 236, 237), (255, 256, 257, 258), (98, 99, 100, 101), (117, 118, 119, 120), (129, 130, 131, 132), (107, 108, 109, 110), (24, 25, 26, 27), (140, 141, 142, 143)]
def sP2 : List (List Nat) := [[158, 159], [299, 300], [279, 280, 281], [170, 171, 172], [184, 185, 186, 187, 188], [201, 202, 203, 204, 205], [219, 220, 221, 222, 223], [238, 239, 240, 241, 242, 243], [259, 260, 261, 262], [102, 103, 104, 105], [121, 122, 123, 124, 125], [133, 134, 135], [111, 112, 113, 114], [28, 29, 30, 31, 32, 33, 34, 35, 36, 37, 38, 39, 40, 41, 42, 43, 44, 45, 46, 47, 48, 49, 50, 51, 52, 53, 54, 55, 56, 57, 58, 59, 60, 61, 62, 63, 64, 65, 66, 67, 68, 69, 70, 71, 72, 73, 74, 75, 76, 77, 78, 79, 80, 81, 82, 83, 84, 85, 86, 87, 88, 89, 90, 91, 92, 93, 94, 95, 96, 97], [144, 145, 146, 147, 148]]
def sP3 : List (List Nat) := [[0, 307, 288, 179, 195, 212, 230, 250, 269, 1161, 1163, 1164, 1162, 1160, 1165], [1307, 0, 1314, 1308, 1309, 1310, 1311, 1312, 1313, 1302, 1304, 1305, 1303, 1301, 1306], [1288, 314, 0, 1289, 1290, 1291, 1292, 1293, 1294, 1283, 1285, 1286, 1284, 1282, 1287], [1179, 308, 289, 0, 196, 213, 231, 251, 270, 1174, 1176, 1177, 1175, 1173, 1178], [1195, 309, 290, 1196, 0, 214, 232, 252, 271, 1190, 1192, 1193, 1191, 1189, 1194], [1212, 310, 291, 1213, 1214, 0, 233, 253, 272, 1207, 1209, 1210, 1208, 1206, 1211], [1230, 311, 292, 1231, 1232, 1233, 0, 254, 273, 1225, 1227, 1228, 1226, 1224, 1229], [1250, 312, 293, 1251, 1252, 1253, 1254, 0, 274, 1245, 1247, 1248, 1246, 1244, 1249], [1269, 313, 294, 1270, 1271, 1272, 1273, 1274, 0, 1264, 1266, 1267, 1265, 1263, 1268], [161, 302, 283, 174, 190, 207, 225, 245, 264, 0, 127, 137, 116, 1106, 150], [163, 304, 285, 176, 192, 209, 227, 247, 266, 1127, 0, 139, 1128, 1126, 152], [164, 305, 286, 177, 193, 210, 228, 248, 267, 1137, 1139, 0, 1138, 1136, 153], [162, 303, 284, 175, 191, 208, 226, 246, 265, 1116, 128, 138, 0, 1115, 151], [160, 301, 282, 173, 189, 206, 224, 244, 263, 106, 126, 136, 115, 0, 149], [165, 306, 287, 178, 194, 211, 229, 249, 268, 1150, 1152, 1153, 1151, 1149, 0]]
theorem sN_1 : (List.range 15).all (fun i => nIs (sP1.getD i (0, 0, 0, 0)).1 (Cond.exactly (sTm i) "java/lang/String") && nIs (sP1.getD i (0, 0, 0, 0)).2.1 (Cond.eq (.field (sTm i) "java/lang/String" "coder" "B") (.int 0)) && nIs (sP1.getD i (0, 0, 0, 0)).2.2.1 (Cond.arrayOf (.field (sTm i) "java/lang/String" "value" "[B") .byte) && nIs (sP1.getD i (0, 0, 0, 0)).2.2.2 (Cond.eq (.length (.field (sTm i) "java/lang/String" "value" "[B")) (.int (Int32.ofNat ((xTxt.map List.length).getD i 0))))) = true := by decide +kernel
theorem sN_2 : (List.range 15).all (fun i => (List.range ((xTxt.map List.length).getD i 0)).all (fun j => nIs ((sP2.getD i []).getD j 0) (Cond.eq (.elem (.field (sTm i) "java/lang/String" "value" "[B") (.int (Int32.ofNat j))) (.int ((xByt.getD i []).getD j 0))))) = true := by decide +kernel
theorem sN_3 : (List.range 15).all (fun i => (List.range 15).all (fun j => Nat.beq i j || nIs ((sP3.getD i []).getD j 0) (Cond.not (Cond.eq (sTm i) (sTm j))) || nIs ((sP3.getD i []).getD j 0 - 1000) (Cond.not (Cond.eq (sTm j) (sTm i))))) = true := by decide +kernel
theorem sN_4 : (List.range 15).all (fun i => Nat.blt ((xTxt.map List.length).getD i 0) 1000) = true := by decide +kernel
theorem sN_5 : nIs 4 (Cond.eq (.static "java/lang/String" "COMPACT_STRINGS" "Z") (.int 1)) = true := by decide +kernel
theorem sN_6 : nIs 5 (Cond.isRef (.static "jdk/internal/util/Preconditions" "SIOOBE_FORMATTER" "Ljava/util/function/BiFunction;")) = true := by decide +kernel
theorem sN_7 : nIs 9 (Cond.isRef (.static "java/lang/Throwable" "UNASSIGNED_STACK" "[Ljava/lang/StackTraceElement;")) = true := by decide +kernel
theorem sN_8 : nIs 10 (Cond.isRef (.static "java/lang/Throwable" "SUPPRESSED_SENTINEL" "Ljava/util/List;")) = true := by decide +kernel
theorem sRf_0 : Cond.stringRef "BentPenny$Judge" 40 "so" ∈ tables_1 := wIs_mem (p := 851) (by decide +kernel)
theorem sRf_1 : Cond.stringRef "BentPenny$Sentence" 48 "or" ∈ tables_1 := wIs_mem (p := 1207) (by decide +kernel)
theorem sRf_2 : Cond.stringRef "BentPenny$Sentence" 64 "and" ∈ tables_1 := wIs_mem (p := 1206) (by decide +kernel)
theorem sRf_3 : Cond.stringRef "BentPenny$Sentence" 66 "not" ∈ tables_1 := wIs_mem (p := 1179) (by decide +kernel)
theorem sRf_4 : Cond.stringRef "BentPenny$Sentence" 72 "place" ∈ tables_1 := wIs_mem (p := 1182) (by decide +kernel)
theorem sRf_5 : Cond.stringRef "BentPenny$Sentence" 74 "knots" ∈ tables_1 := wIs_mem (p := 1183) (by decide +kernel)
theorem sRf_6 : Cond.stringRef "BentPenny$Sentence" 76 "comes" ∈ tables_1 := wIs_mem (p := 1184) (by decide +kernel)
theorem sRf_7 : Cond.stringRef "BentPenny$Sentence" 78 "shares" ∈ tables_1 := wIs_mem (p := 1185) (by decide +kernel)
theorem sRf_8 : Cond.stringRef "BentPenny$Sentence" 80 "like" ∈ tables_1 := wIs_mem (p := 1186) (by decide +kernel)
theorem sRf_9 : Cond.stringRef "BentPenny$Table" 85 "coin" ∈ tables_1 := wIs_mem (p := 574) (by decide +kernel)
theorem sRf_10 : Cond.stringRef "BentPenny$Table" 93 "wheel" ∈ tables_1 := wIs_mem (p := 626) (by decide +kernel)
theorem sRf_11 : Cond.stringRef "BentPenny$Table" 98 "end" ∈ tables_1 := wIs_mem (p := 635) (by decide +kernel)
theorem sRf_12 : Cond.stringRef "BentPenny$Table" 125 "open" ∈ tables_1 := wIs_mem (p := 605) (by decide +kernel)
theorem sRf_13 : Cond.stringRef "BentPenny$Tokens" 77 "coin open wheel end again so or and not like comes shares place knots " ∈ tables_1 := wIs_mem (p := 499) (by decide +kernel)
theorem sRf_14 : Cond.stringRef "BentPenny$Way" 98 "again" ∈ tables_1 := wIs_mem (p := 710) (by decide +kernel)
theorem strEnv_of {s : State} {b : Nat} (hts : ∀ w ∈ lw_tbl, w.before #[Value.ref b] s = true) (hgv : (Jvm.Cond.and given_1 narrow_1).before #[Value.ref b] s = true) : ∃ adK adV : Nat → Nat, ∀ ρ : Nat → Nat, (∀ k, k < 15 → ρ (xstr0 + k) = adK k) → StrEnv ρ adV (fun q => s.heap.size ≤ q) s := by
  have hs := flat_of_before _ hgv
  have hA : ∀ a : Nat, a < s.heap.size → ¬ (fun q : Nat => s.heap.size ≤ q) a := fun a h => Nat.not_le.mpr h
  have hT : ∀ w ∈ tables_1, w.before #[Value.ref b] s = true := fun w hw => hts w (List.mem_append_right _ hw)
  have g1 : ∀ i, i < 15 → _ := fun i hi => List.all_eq_true.mp sN_1 i (List.mem_range.mpr hi)
  simp only [Bool.and_eq_true] at g1
  obtain ⟨adK, adV, hS, hev⟩ := vk_Sof (args := #[Value.ref b]) (s := s) (N := 15) (tm := sTm) (len := xTxt.map List.length) (byt := xByt) (A := fun q => s.heap.size ≤ q)
    (fun i hi => by
      have h1 := Nat.le_of_ble_eq_true (List.all_eq_true.mp sN_4 i (List.mem_range.mpr hi))
      omega)
    (fun i hi => hs _ (nIs_mem (g1 i hi).1.1.1)) (fun i hi => hs _ (nIs_mem (g1 i hi).1.1.2)) (fun i hi => hs _ (nIs_mem (g1 i hi).1.2)) (fun i hi => hs _ (nIs_mem (g1 i hi).2))
    (fun i hi j hj => hs _ (nIs_mem (List.all_eq_true.mp (List.all_eq_true.mp sN_2 i (List.mem_range.mpr hi)) j (List.mem_range.mpr hj))))
    (fun i j hi hj hij => by
      have h1 := List.all_eq_true.mp (List.all_eq_true.mp sN_3 i (List.mem_range.mpr hi)) j (List.mem_range.mpr hj)
      simp only [Bool.or_eq_true] at h1
      rcases h1 with (h1 | h1) | h1
      · exact absurd (Nat.eq_of_beq_eq_true h1) hij
      · exact Or.inl (hs _ (nIs_mem h1))
      · exact Or.inr (hs _ (nIs_mem h1))) hA
  refine ⟨adK, adV, fun ρ hρ => ⟨?_, ?_, ?_, ?_⟩⟩
  · intro own i k hk
    have hmem : ∀ (L : List (Nat × Nat)), kStr own i = xlk L i → (i, k) ∈ L := fun L hL => xlk_mem (hL ▸ hk)
    match own, hk, hmem with
    | 0, hk, _ => exact nomatch hk
    | 1, hk, _ => exact nomatch hk
    | 2, hk, _ => exact nomatch hk
    | 3, hk, hmem =>
      have h1 := hmem [(40, 0)] rfl
      simp only [List.mem_cons, Prod.mk.injEq, List.not_mem_nil, or_false] at h1
      obtain ⟨rfl, rfl⟩ := h1
      · exact ⟨_, vk_R.of (hT _ sRf_0) (by rw [hρ 0 (by decide)]; exact hev 0 (by decide))⟩
    | 4, hk, _ => exact nomatch hk
    | 5, hk, hmem =>
      have h1 := hmem [(48, 1), (64, 2), (66, 3), (72, 4), (74, 5), (76, 6), (78, 7), (80, 8)] rfl
      simp only [List.mem_cons, Prod.mk.injEq, List.not_mem_nil, or_false] at h1
      rcases h1 with ⟨rfl, rfl⟩ | ⟨rfl, rfl⟩ | ⟨rfl, rfl⟩ | ⟨rfl, rfl⟩ | ⟨rfl, rfl⟩ | ⟨rfl, rfl⟩ | ⟨rfl, rfl⟩ | ⟨rfl, rfl⟩
      · exact ⟨_, vk_R.of (hT _ sRf_1) (by rw [hρ 1 (by decide)]; exact hev 1 (by decide))⟩
      · exact ⟨_, vk_R.of (hT _ sRf_2) (by rw [hρ 2 (by decide)]; exact hev 2 (by decide))⟩
      · exact ⟨_, vk_R.of (hT _ sRf_3) (by rw [hρ 3 (by decide)]; exact hev 3 (by decide))⟩
      · exact ⟨_, vk_R.of (hT _ sRf_4) (by rw [hρ 4 (by decide)]; exact hev 4 (by decide))⟩
      · exact ⟨_, vk_R.of (hT _ sRf_5) (by rw [hρ 5 (by decide)]; exact hev 5 (by decide))⟩
      · exact ⟨_, vk_R.of (hT _ sRf_6) (by rw [hρ 6 (by decide)]; exact hev 6 (by decide))⟩
      · exact ⟨_, vk_R.of (hT _ sRf_7) (by rw [hρ 7 (by decide)]; exact hev 7 (by decide))⟩
      · exact ⟨_, vk_R.of (hT _ sRf_8) (by rw [hρ 8 (by decide)]; exact hev 8 (by decide))⟩
    | 6, hk, _ => exact nomatch hk
    | 7, hk, _ => exact nomatch hk
    | 8, hk, hmem =>
      have h1 := hmem [(85, 9), (93, 10), (98, 11), (125, 12)] rfl
      simp only [List.mem_cons, Prod.mk.injEq, List.not_mem_nil, or_false] at h1
      rcases h1 with ⟨rfl, rfl⟩ | ⟨rfl, rfl⟩ | ⟨rfl, rfl⟩ | ⟨rfl, rfl⟩
      · exact ⟨_, vk_R.of (hT _ sRf_9) (by rw [hρ 9 (by decide)]; exact hev 9 (by decide))⟩
      · exact ⟨_, vk_R.of (hT _ sRf_10) (by rw [hρ 10 (by decide)]; exact hev 10 (by decide))⟩
      · exact ⟨_, vk_R.of (hT _ sRf_11) (by rw [hρ 11 (by decide)]; exact hev 11 (by decide))⟩
      · exact ⟨_, vk_R.of (hT _ sRf_12) (by rw [hρ 12 (by decide)]; exact hev 12 (by decide))⟩
    | 9, hk, hmem =>
      have h1 := hmem [(77, 13)] rfl
      simp only [List.mem_cons, Prod.mk.injEq, List.not_mem_nil, or_false] at h1
      obtain ⟨rfl, rfl⟩ := h1
      · exact ⟨_, vk_R.of (hT _ sRf_13) (by rw [hρ 13 (by decide)]; exact hev 13 (by decide))⟩
    | 10, hk, hmem =>
      have h1 := hmem [(98, 14)] rfl
      simp only [List.mem_cons, Prod.mk.injEq, List.not_mem_nil, or_false] at h1
      obtain ⟨rfl, rfl⟩ := h1
      · exact ⟨_, vk_R.of (hT _ sRf_14) (by rw [hρ 14 (by decide)]; exact hev 14 (by decide))⟩
    | 11, hk, _ => exact nomatch hk
    | 12, hk, _ => exact nomatch hk
    | 13, hk, _ => exact nomatch hk
    | n + 14, hk, _ => exact nomatch hk
  · have h1 : vk_S 15 (xTxt.map List.length) xByt adK adV (fun q => s.heap.size ≤ q) s s.heap := hS
    refine ⟨fun i hi => ?_, fun i j hi hj hij => ?_⟩
    · have h2 := h1.1 i hi
      rw [show (fun k => ρ (xstr0 + k)) i = adK i from hρ i hi]
      exact h2
    · exact h1.2 i j hi hj (by
        have e1 : ρ (xstr0 + i) = adK i := hρ i hi
        have e2 : ρ (xstr0 + j) = adK j := hρ j hj
        rw [← e1, ← e2]
        exact hij)
  · exact va_Zof (hT _ (wIs_mem (p := 509) (by decide +kernel))) (hT _ (wIs_mem (p := 14) (by decide +kernel))) (va_eqi (hs _ (nIs_mem sN_5))) hA
  · exact va_Zqof (hT _ (wIs_mem (p := 525) (by decide +kernel))) (hT _ (wIs_mem (p := 16) (by decide +kernel))) (hs _ (nIs_mem sN_6)) hA
theorem thrEnv_of {s : State} {b : Nat} (hts : ∀ w ∈ lw_tbl, w.before #[Value.ref b] s = true) (hgv : (Jvm.Cond.and given_1 narrow_1).before #[Value.ref b] s = true) : ThrEnv (fun q => s.heap.size ≤ q) s := by
  have hs := flat_of_before _ hgv
  have hA : ∀ a : Nat, a < s.heap.size → ¬ (fun q : Nat => s.heap.size ≤ q) a := fun a h => Nat.not_le.mpr h
  have hT : ∀ w ∈ tables_1, w.before #[Value.ref b] s = true := fun w hw => hts w (List.mem_append_right _ hw)
  refine ⟨fun w hw => ?_, ?_, ?_⟩
  · have h1 := Cond.tabsOnly_warm (args' := #[]) (T := s) (State.WarmedH.refl s) w (List.all_eq_true.mp thr_tabs w hw) (hT w (of_decide_eq_true (List.all_eq_true.mp thr_w1 w hw)))
    rwa [setVm_self_] at h1
  · exact vx_Zqof (hT _ (wIs_mem (p := 1299) (by decide +kernel))) (hT _ (wIs_mem (p := 19) (by decide +kernel))) (hs _ (nIs_mem sN_7)) hA
  · exact vx_Zqof (hT _ (wIs_mem (p := 1301) (by decide +kernel))) (hT _ (wIs_mem (p := 19) (by decide +kernel))) (hs _ (nIs_mem sN_8)) hA
theorem nws_of {s : State} {b : Nat} (hts : ∀ w ∈ lw_tbl, w.before #[Value.ref b] s = true) : NWs s := by
  intro w hw hn
  have h1 := hts w (List.mem_append_right _ hw)
  refine va_Nw.of ?_ h1
  cases w <;> first | rfl | exact absurd hn Bool.false_ne_true
theorem ka_of {s : State} {ar : Array Value} {ty : FieldType} (h : (Cond.arrayClass ty).before ar s = true) : ∃ cA : ClassId, ArrOfT s cA ty ∧ s.vm.findClass ("[" ++ ty.toString) = some cA := by
  obtain ⟨cA, kA, comp, h1, h2, h3⟩ := Cond.arrayClass_spec h
  exact ⟨cA, fun n z => ⟨(fun k h => by cases h), kA, h2, comp, h3⟩, h1⟩
theorem va_K_of {s : State} {b : Nat} (hts : ∀ w ∈ lw_tbl, w.before #[Value.ref b] s = true) : ∃ (dC : Nat → ClassId) (dI : Nat → Nat → Nat) (cs : Nat → Nat), va_K (dC, dI) vwCl (wtys cs) s ∧ va_AO "BentPenny$State" s := by
  have hT : ∀ w ∈ tables_1, w.before #[Value.ref b] s = true := fun w hw => hts w (List.mem_append_right _ hw)
  have hG : ∀ w ∈ GW, w.before #[Value.ref b] s = true := fun w hw => hts w (List.mem_filter.mp hw).1
  have hAO : va_AO "BentPenny$State" s := va_AO.of (hT _ bArr_ov)
  have h0 : ∀ ci : Nat, ∃ q : ClassId × (Nat → Nat), ci < 13 → u_Kn s (cnm ci) (TT ci) (nf ci) q.1 q.2 := by
    intro ci
    by_cases h : ci < 13
    · obtain ⟨cC, iS, hk⟩ := u_known (C := cnm ci) (T := TT ci) (N := nf ci) (n := nf ci) hG (uw_in ci h) (by
        have hz : (List.range 13).all (fun ci => gIs (pInst ci) (.instantiable (cnm ci) (nf ci))) = true := by decide +kernel
        exact hG _ (gIs_in (List.all_eq_true.mp hz ci (List.mem_range.mpr h))))
      exact ⟨(cC, iS), fun _ => hk⟩
    · exact ⟨(0, fun _ => 0), fun h2 => absurd h2 h⟩
  obtain ⟨d, hd⟩ := Classical.axiomOfChoice h0
  obtain ⟨c20, a20, n20⟩ := ka_of (hG _ bArr_byte)
  obtain ⟨c21, a21, n21⟩ := ka_of (hG _ bArr_boolean)
  obtain ⟨c22, a22, n22⟩ := ka_of (hG _ bArr_int)
  obtain ⟨c23, a23, n23⟩ := ka_of (hG _ bArr_long)
  obtain ⟨comp, c24, k24, e1, e2, e3, e4, e5⟩ := Cond.arrayOver_spec (hT _ bArr_ov)
  refine ⟨fun k => (d k).1, fun k => (d k).2, fun k => if k = 20 then c20 else if k = 21 then c21 else if k = 22 then c22 else if k = 23 then c23 else c24, ⟨?_, ?_⟩, hAO⟩
  · intro c q hq
    have hc : c < 13 := (List.getElem?_eq_some_iff.mp hq).1
    rw [cl_at c hc] at hq
    cases hq
    exact hd c hc
  · intro k q hq
    match k, hq with
    | 0, hq => cases hq; exact ⟨a20, n20⟩
    | 1, hq => cases hq; exact ⟨a21, n21⟩
    | 2, hq => cases hq; exact ⟨a22, n22⟩
    | 3, hq => cases hq; exact ⟨a23, n23⟩
    | 4, hq => cases hq; exact ⟨fun n z => ⟨(fun k h => by cases h), k24, e3, comp, e4⟩, k24, comp, e3, e4, e1, e5⟩
    | n + 5, hq => exact nomatch hq
