/-! printed by wip/whole/mk46.py -/
/-- the terms of the texts -/
def sTm : Nat → Term
  | 0 => .string "BentPenny$Judge" 40
  | 1 => .string "BentPenny$Sentence" 48
  | 2 => .string "BentPenny$Sentence" 64
  | 3 => .string "BentPenny$Sentence" 66
  | 4 => .string "BentPenny$Sentence" 72
  | 5 => .string "BentPenny$Sentence" 74
  | 6 => .string "BentPenny$Sentence" 76
  | 7 => .string "BentPenny$Sentence" 78
  | 8 => .string "BentPenny$Sentence" 80
  | 9 => .string "BentPenny$Table" 85
  | 10 => .string "BentPenny$Table" 93
  | 11 => .string "BentPenny$Table" 98
  | 12 => .string "BentPenny$Table" 125
  | 13 => .string "BentPenny$Tokens" 77
  | _ => .string "BentPenny$Way" 98
def sNar : List Cond := flatC (Jvm.Cond.and given_1 narrow_1)
def nIs (p : Nat) (w : Cond) : Bool := decide (sNar[p]? = some w)
theorem nIs_mem {p : Nat} {w : Cond} (h : nIs p w = true) : w ∈ sNar := List.mem_of_getElem? (of_decide_eq_true h)
def sP1 : List (Nat × Nat × Nat × Nat) := [(154, 155, 156, 157), (295, 296, 297, 298), (275, 276, 277, 278), (166, 167, 168, 169), (180, 181, 182, 183), (197, 198, 199, 200), (215, 216, 217, 218), (234, 235, 236, 237), (255, 256, 257, 258), (98, 99, 100, 101), (117, 118, 119, 120), (129, 130, 131, 132), (107, 108, 109, 110), (24, 25, 26, 27), (140, 141, 142, 143)]
def sP2 : List (List Nat) := [[158, 159], [299, 300], [279, 280, 281], [170, 171, 172], [184, 185, 186, 187, 188], [201, 202, 203, 204, 205], [219, 220, 221, 222, 223], [238, 239, 240, 241, 242, 243], [259, 260, 261, 262], [102, 103, 104, 105], [121, 122, 123, 124, 125], [133, 134, 135], [111, 112, 113, 114], [28, 29, 30, 31, 32, 33, 34, 35, 36, 37, 38, 39, 40, 41, 42, 43, 44, 45, 46, 47, 48, 49, 50, 51, 52, 53, 54, 55, 56, 57, 58, 59, 60, 61, 62, 63, 64, 65, 66, 67, 68, 69, 70, 71, 72, 73, 74, 75, 76, 77, 78, 79, 80, 81, 82, 83, 84, 85, 86, 87, 88, 89, 90, 91, 92, 93, 94, 95, 96, 97], [144, 145, 146, 147, 148]]
def sP3 : List (List Nat) := [[0, 307, 288, 179, 195, 212, 230, 250, 269, 1161, 1163, 1164, 1162, 1160, 1165], [1307, 0, 1314, 1308, 1309, 1310, 1311, 1312, 1313, 1302, 1304, 1305, 1303, 1301, 1306], [1288, 314, 0, 1289, 1290, 1291, 1292, 1293, 1294, 1283, 1285, 1286, 1284, 1282, 1287], [1179, 308, 289, 0, 196, 213, 231, 251, 270, 1174, 1176, 1177, 1175, 1173, 1178], [1195, 309, 290, 1196, 0, 214, 232, 252, 271, 1190, 1192, 1193, 1191, 1189, 1194], [1212, 310, 291, 1213, 1214, 0, 233, 253, 272, 1207, 1209, 1210, 1208, 1206, 1211], [1230, 311, 292, 1231, 1232, 1233, 0, 254, 273, 1225, 1227, 1228, 1226, 1224, 1229], [1250, 312, 293, 1251, 1252, 1253, 1254, 0, 274, 1245, 1247, 1248, 1246, 1244, 1249], [1269, 313, 294, 1270, 1271, 1272, 1273, 1274, 0, 1264, 1266, 1267, 1265, 1263, 1268], [161, 302, 283, 174, 190, 207, 225, 245, 264, 0, 127, 137, 116, 1106, 150], [163, 304, 285, 176, 192, 209, 227, 247, 266, 1127, 0, 139, 1128, 1126, 152], [164, 305, 286, 177, 193, 210, 228, 248, 267, 1137, 1139, 0, 1138, 1136, 153], [162, 303, 284, 175, 191, 208, 226, 246, 265, 1116, 128, 138, 0, 1115, 151], [160, 301, 282, 173, 189, 206, 224, 244, 263, 106, 126, 136, 115, 0, 149], [165, 306, 287, 178, 194, 211, 229, 249, 268, 1150, 1152, 1153, 1151, 1149, 0]]
theorem sN_1 : (List.range 15).all (fun i => nIs (sP1.getD i (0, 0, 0, 0)).1 (Cond.exactly (sTm i) "java/lang/String") && nIs (sP1.getD i (0, 0, 0, 0)).2.1 (Cond.eq (.field (sTm i) "java/lang/String" "coder" "B") (.int 0)) && nIs (sP1.getD i (0, 0, 0, 0)).2.2.1 (Cond.arrayOf (.field (sTm i) "java/lang/String" "value" "[B") .byte) && nIs (sP1.getD i (0, 0, 0, 0)).2.2.2 (Cond.eq (.length (.field (sTm i) "java/lang/String" "value" "[B")) (.int (Int32.ofNat ((xTxt.map List.length).getD i 0))))) = true := by decide +kernel
theorem sN_2 : (List.range 15).all (fun i => (List.range ((xTxt.map List.length).getD i 0)).all (fun j => nIs ((sP2.getD i []).getD j 0) (Cond.eq (.elem (.field (sTm i) "java/lang/String" "value" "[B") (.int (Int32.ofNat j))) (.int ((xByt.getD i []).getD j 0))))) = true := by decide +kernel
theorem sN_3 : (List.range 15).all (fun i => (List.range 15).all (fun j => Nat.beq i j || nIs ((sP3.getD i []).getD j 0) (Cond.not (Cond.eq (sTm i) (sTm j))) || nIs ((sP3.getD i []).getD j 0 - 1000) (Cond.not (Cond.eq (sTm j) (sTm i))))) = true := by decide +kernel
theorem sN_4 : (List.range 15).all (fun i => Nat.blt ((xTxt.map List.length).getD i 0) 1000) = true := by decide +kernel
theorem sN_5 : nIs 4 (Cond.eq (.static "java/lang/String" "COMPACT_STRINGS" "Z") (.int 1)) = true := by decide +kernel
theorem sN_6 : nIs 5 (Cond.isRef (.static "jdk/internal/util/Preconditions" "SIOOBE_FORMATTER" "Ljava/util/function/BiFunction;")) = true := by decide +kernel
theorem sN_7 : nIs 9 (Cond.isRef (.static "java/lang/Throwable" "UNASSIGNED_STACK" "[Ljava/lang/StackTraceElement;")) = true := by decide +kernel
theorem sN_8 : nIs 10 (Cond.isRef (.static "java/lang/Throwable" "SUPPRESSED_SENTINEL" "Ljava/util/List;")) = true := by decide +kernel
theorem sRf_0 : Cond.stringRef "BentPenny$Judge" 40 "so" ∈ tables_1 := wIs_mem (p := 851) (by decide +kernel)
theorem sRf_1 : Cond.stringRef "BentPenny$Sentence" 48 "or" ∈ tables_1 := wIs_mem (p := 1207) (by decide +kernel)
theorem sRf_2 : Cond.stringRef "BentPenny$Sentence" 64 "and" ∈ tables_1 := wIs_mem (p := 1206) (by decide +kernel)
theorem sRf_3 : Cond.stringRef "BentPenny$Sentence" 66 "not" ∈ tables_1 := wIs_mem (p := 1179) (by decide +kernel)
theorem sRf_4 : Cond.stringRef "BentPenny$Sentence" 72 "place" ∈ tables_1 := wIs_mem (p := 1182) (by decide +kernel)
theorem sRf_5 : Cond.stringRef "BentPenny$Sentence" 74 "knots" ∈ tables_1 := wIs_mem (p := 1183) (by decide +kernel)
theorem sRf_6 : Cond.stringRef "BentPenny$Sentence" 76 "comes" ∈ tables_1 := wIs_mem (p := 1184) (by decide +kernel)
theorem sRf_7 : Cond.stringRef "BentPenny$Sentence" 78 "shares" ∈ tables_1 := wIs_mem (p := 1185) (by decide +kernel)
theorem sRf_8 : Cond.stringRef "BentPenny$Sentence" 80 "like" ∈ tables_1 := wIs_mem (p := 1186) (by decide +kernel)
theorem sRf_9 : Cond.stringRef "BentPenny$Table" 85 "coin" ∈ tables_1 := wIs_mem (p := 574) (by decide +kernel)
theorem sRf_10 : Cond.stringRef "BentPenny$Table" 93 "wheel" ∈ tables_1 := wIs_mem (p := 626) (by decide +kernel)
theorem sRf_11 : Cond.stringRef "BentPenny$Table" 98 "end" ∈ tables_1 := wIs_mem (p := 635) (by decide +kernel)
theorem sRf_12 : Cond.stringRef "BentPenny$Table" 125 "open" ∈ tables_1 := wIs_mem (p := 605) (by decide +kernel)
theorem sRf_13 : Cond.stringRef "BentPenny$Tokens" 77 "coin open wheel end again so or and not like comes shares place knots " ∈ tables_1 := wIs_mem (p := 499) (by decide +kernel)
theorem sRf_14 : Cond.stringRef "BentPenny$Way" 98 "again" ∈ tables_1 := wIs_mem (p := 710) (by decide +kernel)
