/-! the tables' words (printed part A of the skeleton), class names, fields, methods (printed names) -/
/-- a private method of a class that the tables say can be made, by its rows of tables_1 -/
def lw_okq (q : MethodName × Nat) : Prop := (q.1.cls ≠ "java/lang/invoke/MethodHandle" ∧ q.1.cls ≠ "java/lang/invoke/VarHandle") ∧ Cond.instantiable q.1.cls q.2 ∈ tables_1 ∧ Cond.privateMethod q.1 ∈ tables_1 ∧ Cond.instanceMethod q.1 ∈ tables_1
theorem lw_p0 : lw_okq (⟨"BentPenny", "feedNumber", "(I)V"⟩, 19) := ⟨⟨by decide +kernel, by decide +kernel⟩, List.mem_of_getElem? (i := 24) (by decide +kernel), List.mem_of_getElem? (i := 456) (by decide +kernel), List.mem_of_getElem? (i := 457) (by decide +kernel)⟩
theorem lw_p1 : lw_okq (⟨"BentPenny", "takeTape", "()I"⟩, 19) := ⟨⟨by decide +kernel, by decide +kernel⟩, List.mem_of_getElem? (i := 24) (by decide +kernel), List.mem_of_getElem? (i := 471) (by decide +kernel), List.mem_of_getElem? (i := 472) (by decide +kernel)⟩
theorem lw_p2 : lw_okq (⟨"BentPenny$Tokens", "begin", "(II)V"⟩, 11) := ⟨⟨by decide +kernel, by decide +kernel⟩, List.mem_of_getElem? (i := 32) (by decide +kernel), List.mem_of_getElem? (i := 475) (by decide +kernel), List.mem_of_getElem? (i := 476) (by decide +kernel)⟩
theorem lw_p3 : lw_okq (⟨"BentPenny$Tokens", "readToken", "(II)I"⟩, 11) := ⟨⟨by decide +kernel, by decide +kernel⟩, List.mem_of_getElem? (i := 32) (by decide +kernel), List.mem_of_getElem? (i := 479) (by decide +kernel), List.mem_of_getElem? (i := 480) (by decide +kernel)⟩
theorem lw_p4 : lw_okq (⟨"BentPenny$Tokens", "readRun", "(II)I"⟩, 11) := ⟨⟨by decide +kernel, by decide +kernel⟩, List.mem_of_getElem? (i := 32) (by decide +kernel), List.mem_of_getElem? (i := 490) (by decide +kernel), List.mem_of_getElem? (i := 491) (by decide +kernel)⟩
theorem lw_p5 : lw_okq (⟨"BentPenny$Tokens", "add", "(III)V"⟩, 11) := ⟨⟨by decide +kernel, by decide +kernel⟩, List.mem_of_getElem? (i := 32) (by decide +kernel), List.mem_of_getElem? (i := 549) (by decide +kernel), List.mem_of_getElem? (i := 550) (by decide +kernel)⟩
theorem lw_p6 : lw_okq (⟨"BentPenny$Tokens", "step", "()V"⟩, 11) := ⟨⟨by decide +kernel, by decide +kernel⟩, List.mem_of_getElem? (i := 32) (by decide +kernel), List.mem_of_getElem? (i := 559) (by decide +kernel), List.mem_of_getElem? (i := 560) (by decide +kernel)⟩
theorem lw_p7 : lw_okq (⟨"BentPenny$Table", "read", "(LBentPenny$Tokens;)Z"⟩, 12) := ⟨⟨by decide +kernel, by decide +kernel⟩, List.mem_of_getElem? (i := 86) (by decide +kernel), List.mem_of_getElem? (i := 563) (by decide +kernel), List.mem_of_getElem? (i := 564) (by decide +kernel)⟩
theorem lw_p8 : lw_okq (⟨"BentPenny$Tokens", "isOut", "()Z"⟩, 11) := ⟨⟨by decide +kernel, by decide +kernel⟩, List.mem_of_getElem? (i := 32) (by decide +kernel), List.mem_of_getElem? (i := 567) (by decide +kernel), List.mem_of_getElem? (i := 568) (by decide +kernel)⟩
theorem lw_p9 : lw_okq (⟨"BentPenny$Table", "readLine", "(LBentPenny$Tokens;)Z"⟩, 12) := ⟨⟨by decide +kernel, by decide +kernel⟩, List.mem_of_getElem? (i := 86) (by decide +kernel), List.mem_of_getElem? (i := 571) (by decide +kernel), List.mem_of_getElem? (i := 572) (by decide +kernel)⟩
theorem lw_p10 : lw_okq (⟨"BentPenny$Tokens", "is", "(Ljava/lang/String;)Z"⟩, 11) := ⟨⟨by decide +kernel, by decide +kernel⟩, List.mem_of_getElem? (i := 32) (by decide +kernel), List.mem_of_getElem? (i := 576) (by decide +kernel), List.mem_of_getElem? (i := 577) (by decide +kernel)⟩
theorem lw_p11 : lw_okq (⟨"BentPenny$Table", "readCoin", "(LBentPenny$Tokens;)Z"⟩, 12) := ⟨⟨by decide +kernel, by decide +kernel⟩, List.mem_of_getElem? (i := 86) (by decide +kernel), List.mem_of_getElem? (i := 580) (by decide +kernel), List.mem_of_getElem? (i := 581) (by decide +kernel)⟩
theorem lw_p12 : lw_okq (⟨"BentPenny$Table", "readName", "(LBentPenny$Tokens;[II)Z"⟩, 12) := ⟨⟨by decide +kernel, by decide +kernel⟩, List.mem_of_getElem? (i := 86) (by decide +kernel), List.mem_of_getElem? (i := 584) (by decide +kernel), List.mem_of_getElem? (i := 585) (by decide +kernel)⟩
theorem lw_p13 : lw_okq (⟨"BentPenny$Tokens", "fail", "(I)Z"⟩, 11) := ⟨⟨by decide +kernel, by decide +kernel⟩, List.mem_of_getElem? (i := 32) (by decide +kernel), List.mem_of_getElem? (i := 589) (by decide +kernel), List.mem_of_getElem? (i := 590) (by decide +kernel)⟩
theorem lw_p14 : lw_okq (⟨"BentPenny$Tokens", "isName", "()Z"⟩, 11) := ⟨⟨by decide +kernel, by decide +kernel⟩, List.mem_of_getElem? (i := 32) (by decide +kernel), List.mem_of_getElem? (i := 594) (by decide +kernel), List.mem_of_getElem? (i := 595) (by decide +kernel)⟩
theorem lw_p15 : lw_okq (⟨"BentPenny$Table", "thingNamed", "(I)I"⟩, 12) := ⟨⟨by decide +kernel, by decide +kernel⟩, List.mem_of_getElem? (i := 86) (by decide +kernel), List.mem_of_getElem? (i := 598) (by decide +kernel), List.mem_of_getElem? (i := 599) (by decide +kernel)⟩
def lw_privs_1 : List (MethodName × Nat) := [(⟨"BentPenny", "feedNumber", "(I)V"⟩, 19), (⟨"BentPenny", "takeTape", "()I"⟩, 19), (⟨"BentPenny$Tokens", "begin", "(II)V"⟩, 11), (⟨"BentPenny$Tokens", "readToken", "(II)I"⟩, 11), (⟨"BentPenny$Tokens", "readRun", "(II)I"⟩, 11), (⟨"BentPenny$Tokens", "add", "(III)V"⟩, 11), (⟨"BentPenny$Tokens", "step", "()V"⟩, 11), (⟨"BentPenny$Table", "read", "(LBentPenny$Tokens;)Z"⟩, 12), (⟨"BentPenny$Tokens", "isOut", "()Z"⟩, 11), (⟨"BentPenny$Table", "readLine", "(LBentPenny$Tokens;)Z"⟩, 12), (⟨"BentPenny$Tokens", "is", "(Ljava/lang/String;)Z"⟩, 11), (⟨"BentPenny$Table", "readCoin", "(LBentPenny$Tokens;)Z"⟩, 12), (⟨"BentPenny$Table", "readName", "(LBentPenny$Tokens;[II)Z"⟩, 12), (⟨"BentPenny$Tokens", "fail", "(I)Z"⟩, 11), (⟨"BentPenny$Tokens", "isName", "()Z"⟩, 11), (⟨"BentPenny$Table", "thingNamed", "(I)I"⟩, 12)]
theorem lw_r1 : ∀ q ∈ lw_privs_1, lw_okq q := List.forall_mem_cons.mpr ⟨lw_p0, List.forall_mem_cons.mpr ⟨lw_p1, List.forall_mem_cons.mpr ⟨lw_p2, List.forall_mem_cons.mpr ⟨lw_p3, List.forall_mem_cons.mpr ⟨lw_p4, List.forall_mem_cons.mpr ⟨lw_p5, List.forall_mem_cons.mpr ⟨lw_p6, List.forall_mem_cons.mpr ⟨lw_p7, List.forall_mem_cons.mpr ⟨lw_p8, List.forall_mem_cons.mpr ⟨lw_p9, List.forall_mem_cons.mpr ⟨lw_p10, List.forall_mem_cons.mpr ⟨lw_p11, List.forall_mem_cons.mpr ⟨lw_p12, List.forall_mem_cons.mpr ⟨lw_p13, List.forall_mem_cons.mpr ⟨lw_p14, List.forall_mem_cons.mpr ⟨lw_p15, fun _ h => absurd h List.not_mem_nil⟩⟩⟩⟩⟩⟩⟩⟩⟩⟩⟩⟩⟩⟩⟩⟩
theorem lw_p16 : lw_okq (⟨"BentPenny$Table", "endNamed", "(I)I"⟩, 12) := ⟨⟨by decide +kernel, by decide +kernel⟩, List.mem_of_getElem? (i := 86) (by decide +kernel), List.mem_of_getElem? (i := 602) (by decide +kernel), List.mem_of_getElem? (i := 603) (by decide +kernel)⟩
theorem lw_p17 : lw_okq (⟨"BentPenny$Table", "addCoin", "(II)V"⟩, 12) := ⟨⟨by decide +kernel, by decide +kernel⟩, List.mem_of_getElem? (i := 86) (by decide +kernel), List.mem_of_getElem? (i := 607) (by decide +kernel), List.mem_of_getElem? (i := 608) (by decide +kernel)⟩
theorem lw_p18 : lw_okq (⟨"BentPenny$Tokens", "pass", "(C)Z"⟩, 11) := ⟨⟨by decide +kernel, by decide +kernel⟩, List.mem_of_getElem? (i := 32) (by decide +kernel), List.mem_of_getElem? (i := 611) (by decide +kernel), List.mem_of_getElem? (i := 612) (by decide +kernel)⟩
theorem lw_p19 : lw_okq (⟨"BentPenny$Tokens", "isSigned", "(C)Z"⟩, 11) := ⟨⟨by decide +kernel, by decide +kernel⟩, List.mem_of_getElem? (i := 32) (by decide +kernel), List.mem_of_getElem? (i := 615) (by decide +kernel), List.mem_of_getElem? (i := 616) (by decide +kernel)⟩
theorem lw_p20 : lw_okq (⟨"BentPenny$Tokens", "holdsNumber", "(II)Z"⟩, 11) := ⟨⟨by decide +kernel, by decide +kernel⟩, List.mem_of_getElem? (i := 32) (by decide +kernel), List.mem_of_getElem? (i := 620) (by decide +kernel), List.mem_of_getElem? (i := 621) (by decide +kernel)⟩
theorem lw_p21 : lw_okq (⟨"BentPenny$Table", "readWheel", "(LBentPenny$Tokens;)Z"⟩, 12) := ⟨⟨by decide +kernel, by decide +kernel⟩, List.mem_of_getElem? (i := 86) (by decide +kernel), List.mem_of_getElem? (i := 628) (by decide +kernel), List.mem_of_getElem? (i := 629) (by decide +kernel)⟩
theorem lw_p22 : lw_okq (⟨"BentPenny$Tokens", "isNumber", "()Z"⟩, 11) := ⟨⟨by decide +kernel, by decide +kernel⟩, List.mem_of_getElem? (i := 32) (by decide +kernel), List.mem_of_getElem? (i := 632) (by decide +kernel), List.mem_of_getElem? (i := 633) (by decide +kernel)⟩
theorem lw_p23 : lw_okq (⟨"BentPenny$Table", "readEnd", "(LBentPenny$Tokens;)Z"⟩, 12) := ⟨⟨by decide +kernel, by decide +kernel⟩, List.mem_of_getElem? (i := 86) (by decide +kernel), List.mem_of_getElem? (i := 637) (by decide +kernel), List.mem_of_getElem? (i := 638) (by decide +kernel)⟩
theorem lw_p24 : lw_okq (⟨"BentPenny$Tokens", "isDone", "()Z"⟩, 11) := ⟨⟨by decide +kernel, by decide +kernel⟩, List.mem_of_getElem? (i := 32) (by decide +kernel), List.mem_of_getElem? (i := 642) (by decide +kernel), List.mem_of_getElem? (i := 643) (by decide +kernel)⟩
theorem lw_p25 : lw_okq (⟨"BentPenny$Table", "copyFrom", "(LBentPenny$Table;)V"⟩, 12) := ⟨⟨by decide +kernel, by decide +kernel⟩, List.mem_of_getElem? (i := 86) (by decide +kernel), List.mem_of_getElem? (i := 646) (by decide +kernel), List.mem_of_getElem? (i := 647) (by decide +kernel)⟩
theorem lw_p26 : lw_okq (⟨"BentPenny$Way", "clear", "()V"⟩, 7) := ⟨⟨by decide +kernel, by decide +kernel⟩, List.mem_of_getElem? (i := 140) (by decide +kernel), List.mem_of_getElem? (i := 650) (by decide +kernel), List.mem_of_getElem? (i := 651) (by decide +kernel)⟩
theorem lw_p27 : lw_okq (⟨"BentPenny$Sentence", "clear", "()V"⟩, 5) := ⟨⟨by decide +kernel, by decide +kernel⟩, List.mem_of_getElem? (i := 172) (by decide +kernel), List.mem_of_getElem? (i := 654) (by decide +kernel), List.mem_of_getElem? (i := 655) (by decide +kernel)⟩
theorem lw_p28 : lw_okq (⟨"BentPenny$Table", "sidesOf", "(I)I"⟩, 12) := ⟨⟨by decide +kernel, by decide +kernel⟩, List.mem_of_getElem? (i := 86) (by decide +kernel), List.mem_of_getElem? (i := 666) (by decide +kernel), List.mem_of_getElem? (i := 667) (by decide +kernel)⟩
theorem lw_p29 : lw_okq (⟨"BentPenny$Table", "hasThing", "(I)Z"⟩, 12) := ⟨⟨by decide +kernel, by decide +kernel⟩, List.mem_of_getElem? (i := 86) (by decide +kernel), List.mem_of_getElem? (i := 670) (by decide +kernel), List.mem_of_getElem? (i := 671) (by decide +kernel)⟩
theorem lw_p30 : lw_okq (⟨"BentPenny$Table", "partsOf", "(II)I"⟩, 12) := ⟨⟨by decide +kernel, by decide +kernel⟩, List.mem_of_getElem? (i := 86) (by decide +kernel), List.mem_of_getElem? (i := 674) (by decide +kernel), List.mem_of_getElem? (i := 675) (by decide +kernel)⟩
theorem lw_p31 : lw_okq (⟨"BentPenny$Table", "hasShare", "(I)Z"⟩, 12) := ⟨⟨by decide +kernel, by decide +kernel⟩, List.mem_of_getElem? (i := 86) (by decide +kernel), List.mem_of_getElem? (i := 682) (by decide +kernel), List.mem_of_getElem? (i := 683) (by decide +kernel)⟩
def lw_privs_2 : List (MethodName × Nat) := [(⟨"BentPenny$Table", "endNamed", "(I)I"⟩, 12), (⟨"BentPenny$Table", "addCoin", "(II)V"⟩, 12), (⟨"BentPenny$Tokens", "pass", "(C)Z"⟩, 11), (⟨"BentPenny$Tokens", "isSigned", "(C)Z"⟩, 11), (⟨"BentPenny$Tokens", "holdsNumber", "(II)Z"⟩, 11), (⟨"BentPenny$Table", "readWheel", "(LBentPenny$Tokens;)Z"⟩, 12), (⟨"BentPenny$Tokens", "isNumber", "()Z"⟩, 11), (⟨"BentPenny$Table", "readEnd", "(LBentPenny$Tokens;)Z"⟩, 12), (⟨"BentPenny$Tokens", "isDone", "()Z"⟩, 11), (⟨"BentPenny$Table", "copyFrom", "(LBentPenny$Table;)V"⟩, 12), (⟨"BentPenny$Way", "clear", "()V"⟩, 7), (⟨"BentPenny$Sentence", "clear", "()V"⟩, 5), (⟨"BentPenny$Table", "sidesOf", "(I)I"⟩, 12), (⟨"BentPenny$Table", "hasThing", "(I)Z"⟩, 12), (⟨"BentPenny$Table", "partsOf", "(II)I"⟩, 12), (⟨"BentPenny$Table", "hasShare", "(I)Z"⟩, 12)]
theorem lw_r2 : ∀ q ∈ lw_privs_2, lw_okq q := List.forall_mem_cons.mpr ⟨lw_p16, List.forall_mem_cons.mpr ⟨lw_p17, List.forall_mem_cons.mpr ⟨lw_p18, List.forall_mem_cons.mpr ⟨lw_p19, List.forall_mem_cons.mpr ⟨lw_p20, List.forall_mem_cons.mpr ⟨lw_p21, List.forall_mem_cons.mpr ⟨lw_p22, List.forall_mem_cons.mpr ⟨lw_p23, List.forall_mem_cons.mpr ⟨lw_p24, List.forall_mem_cons.mpr ⟨lw_p25, List.forall_mem_cons.mpr ⟨lw_p26, List.forall_mem_cons.mpr ⟨lw_p27, List.forall_mem_cons.mpr ⟨lw_p28, List.forall_mem_cons.mpr ⟨lw_p29, List.forall_mem_cons.mpr ⟨lw_p30, List.forall_mem_cons.mpr ⟨lw_p31, fun _ h => absurd h List.not_mem_nil⟩⟩⟩⟩⟩⟩⟩⟩⟩⟩⟩⟩⟩⟩⟩⟩
theorem lw_p32 : lw_okq (⟨"BentPenny$Table", "hasEnd", "(I)Z"⟩, 12) := ⟨⟨by decide +kernel, by decide +kernel⟩, List.mem_of_getElem? (i := 86) (by decide +kernel), List.mem_of_getElem? (i := 686) (by decide +kernel), List.mem_of_getElem? (i := 687) (by decide +kernel)⟩
theorem lw_p33 : lw_okq (⟨"BentPenny$Table", "shareAbove", "(I)I"⟩, 12) := ⟨⟨by decide +kernel, by decide +kernel⟩, List.mem_of_getElem? (i := 86) (by decide +kernel), List.mem_of_getElem? (i := 690) (by decide +kernel), List.mem_of_getElem? (i := 691) (by decide +kernel)⟩
theorem lw_p34 : lw_okq (⟨"BentPenny$Table", "shareBelow", "(I)I"⟩, 12) := ⟨⟨by decide +kernel, by decide +kernel⟩, List.mem_of_getElem? (i := 86) (by decide +kernel), List.mem_of_getElem? (i := 694) (by decide +kernel), List.mem_of_getElem? (i := 695) (by decide +kernel)⟩
theorem lw_p35 : lw_okq (⟨"BentPenny$Way", "read", "(LBentPenny$Tokens;LBentPenny$Table;)Z"⟩, 7) := ⟨⟨by decide +kernel, by decide +kernel⟩, List.mem_of_getElem? (i := 140) (by decide +kernel), List.mem_of_getElem? (i := 702) (by decide +kernel), List.mem_of_getElem? (i := 703) (by decide +kernel)⟩
theorem lw_p36 : lw_okq (⟨"BentPenny$Way", "readNode", "(LBentPenny$Tokens;LBentPenny$Table;III)Z"⟩, 7) := ⟨⟨by decide +kernel, by decide +kernel⟩, List.mem_of_getElem? (i := 140) (by decide +kernel), List.mem_of_getElem? (i := 707) (by decide +kernel), List.mem_of_getElem? (i := 708) (by decide +kernel)⟩
theorem lw_p37 : lw_okq (⟨"BentPenny$Way", "add", "(IIII)I"⟩, 7) := ⟨⟨by decide +kernel, by decide +kernel⟩, List.mem_of_getElem? (i := 140) (by decide +kernel), List.mem_of_getElem? (i := 718) (by decide +kernel), List.mem_of_getElem? (i := 719) (by decide +kernel)⟩
theorem lw_p38 : lw_okq (⟨"BentPenny$Way", "hasNode", "(I)Z"⟩, 7) := ⟨⟨by decide +kernel, by decide +kernel⟩, List.mem_of_getElem? (i := 140) (by decide +kernel), List.mem_of_getElem? (i := 723) (by decide +kernel), List.mem_of_getElem? (i := 724) (by decide +kernel)⟩
theorem lw_p39 : lw_okq (⟨"BentPenny$Way", "readSides", "(LBentPenny$Tokens;LBentPenny$Table;III)Z"⟩, 7) := ⟨⟨by decide +kernel, by decide +kernel⟩, List.mem_of_getElem? (i := 140) (by decide +kernel), List.mem_of_getElem? (i := 730) (by decide +kernel), List.mem_of_getElem? (i := 731) (by decide +kernel)⟩
theorem lw_p40 : lw_okq (⟨"BentPenny$Way", "copyFrom", "(LBentPenny$Way;)V"⟩, 7) := ⟨⟨by decide +kernel, by decide +kernel⟩, List.mem_of_getElem? (i := 140) (by decide +kernel), List.mem_of_getElem? (i := 736) (by decide +kernel), List.mem_of_getElem? (i := 737) (by decide +kernel)⟩
theorem lw_p41 : lw_okq (⟨"BentPenny$Way", "sortAt", "(I)I"⟩, 7) := ⟨⟨by decide +kernel, by decide +kernel⟩, List.mem_of_getElem? (i := 140) (by decide +kernel), List.mem_of_getElem? (i := 744) (by decide +kernel), List.mem_of_getElem? (i := 745) (by decide +kernel)⟩
theorem lw_p42 : lw_okq (⟨"BentPenny$Way", "whichAt", "(I)I"⟩, 7) := ⟨⟨by decide +kernel, by decide +kernel⟩, List.mem_of_getElem? (i := 140) (by decide +kernel), List.mem_of_getElem? (i := 752) (by decide +kernel), List.mem_of_getElem? (i := 753) (by decide +kernel)⟩
theorem lw_p43 : lw_okq (⟨"BentPenny$Way", "nextAt", "(II)I"⟩, 7) := ⟨⟨by decide +kernel, by decide +kernel⟩, List.mem_of_getElem? (i := 140) (by decide +kernel), List.mem_of_getElem? (i := 760) (by decide +kernel), List.mem_of_getElem? (i := 761) (by decide +kernel)⟩
theorem lw_p44 : lw_okq (⟨"BentPenny$Way", "isTold", "()Z"⟩, 7) := ⟨⟨by decide +kernel, by decide +kernel⟩, List.mem_of_getElem? (i := 140) (by decide +kernel), List.mem_of_getElem? (i := 773) (by decide +kernel), List.mem_of_getElem? (i := 774) (by decide +kernel)⟩
theorem lw_p45 : lw_okq (⟨"BentPenny$Odds", "tellPolynomials", "(LBentPenny$Table;LBentPenny$Way;)V"⟩, 13) := ⟨⟨by decide +kernel, by decide +kernel⟩, List.mem_of_getElem? (i := 212) (by decide +kernel), List.mem_of_getElem? (i := 777) (by decide +kernel), List.mem_of_getElem? (i := 778) (by decide +kernel)⟩
theorem lw_p46 : lw_okq (⟨"BentPenny$Odds", "spread", "(LBentPenny$Table;LBentPenny$Way;III)V"⟩, 13) := ⟨⟨by decide +kernel, by decide +kernel⟩, List.mem_of_getElem? (i := 212) (by decide +kernel), List.mem_of_getElem? (i := 781) (by decide +kernel), List.mem_of_getElem? (i := 782) (by decide +kernel)⟩
theorem lw_p47 : lw_okq (⟨"BentPenny$Odds", "wholeOf", "(LBentPenny$Table;I)I"⟩, 13) := ⟨⟨by decide +kernel, by decide +kernel⟩, List.mem_of_getElem? (i := 212) (by decide +kernel), List.mem_of_getElem? (i := 785) (by decide +kernel), List.mem_of_getElem? (i := 786) (by decide +kernel)⟩
def lw_privs_3 : List (MethodName × Nat) := [(⟨"BentPenny$Table", "hasEnd", "(I)Z"⟩, 12), (⟨"BentPenny$Table", "shareAbove", "(I)I"⟩, 12), (⟨"BentPenny$Table", "shareBelow", "(I)I"⟩, 12), (⟨"BentPenny$Way", "read", "(LBentPenny$Tokens;LBentPenny$Table;)Z"⟩, 7), (⟨"BentPenny$Way", "readNode", "(LBentPenny$Tokens;LBentPenny$Table;III)Z"⟩, 7), (⟨"BentPenny$Way", "add", "(IIII)I"⟩, 7), (⟨"BentPenny$Way", "hasNode", "(I)Z"⟩, 7), (⟨"BentPenny$Way", "readSides", "(LBentPenny$Tokens;LBentPenny$Table;III)Z"⟩, 7), (⟨"BentPenny$Way", "copyFrom", "(LBentPenny$Way;)V"⟩, 7), (⟨"BentPenny$Way", "sortAt", "(I)I"⟩, 7), (⟨"BentPenny$Way", "whichAt", "(I)I"⟩, 7), (⟨"BentPenny$Way", "nextAt", "(II)I"⟩, 7), (⟨"BentPenny$Way", "isTold", "()Z"⟩, 7), (⟨"BentPenny$Odds", "tellPolynomials", "(LBentPenny$Table;LBentPenny$Way;)V"⟩, 13), (⟨"BentPenny$Odds", "spread", "(LBentPenny$Table;LBentPenny$Way;III)V"⟩, 13), (⟨"BentPenny$Odds", "wholeOf", "(LBentPenny$Table;I)I"⟩, 13)]
theorem lw_r3 : ∀ q ∈ lw_privs_3, lw_okq q := List.forall_mem_cons.mpr ⟨lw_p32, List.forall_mem_cons.mpr ⟨lw_p33, List.forall_mem_cons.mpr ⟨lw_p34, List.forall_mem_cons.mpr ⟨lw_p35, List.forall_mem_cons.mpr ⟨lw_p36, List.forall_mem_cons.mpr ⟨lw_p37, List.forall_mem_cons.mpr ⟨lw_p38, List.forall_mem_cons.mpr ⟨lw_p39, List.forall_mem_cons.mpr ⟨lw_p40, List.forall_mem_cons.mpr ⟨lw_p41, List.forall_mem_cons.mpr ⟨lw_p42, List.forall_mem_cons.mpr ⟨lw_p43, List.forall_mem_cons.mpr ⟨lw_p44, List.forall_mem_cons.mpr ⟨lw_p45, List.forall_mem_cons.mpr ⟨lw_p46, List.forall_mem_cons.mpr ⟨lw_p47, fun _ h => absurd h List.not_mem_nil⟩⟩⟩⟩⟩⟩⟩⟩⟩⟩⟩⟩⟩⟩⟩⟩
theorem lw_p48 : lw_okq (⟨"BentPenny$Table", "allParts", "(I)I"⟩, 12) := ⟨⟨by decide +kernel, by decide +kernel⟩, List.mem_of_getElem? (i := 86) (by decide +kernel), List.mem_of_getElem? (i := 789) (by decide +kernel), List.mem_of_getElem? (i := 790) (by decide +kernel)⟩
theorem lw_p49 : lw_okq (⟨"BentPenny$Odds", "weigh", "(LBentPenny$Table;LBentPenny$Way;I)V"⟩, 13) := ⟨⟨by decide +kernel, by decide +kernel⟩, List.mem_of_getElem? (i := 212) (by decide +kernel), List.mem_of_getElem? (i := 796) (by decide +kernel), List.mem_of_getElem? (i := 797) (by decide +kernel)⟩
theorem lw_p50 : lw_okq (⟨"BentPenny$Way", "parentOf", "(I)I"⟩, 7) := ⟨⟨by decide +kernel, by decide +kernel⟩, List.mem_of_getElem? (i := 140) (by decide +kernel), List.mem_of_getElem? (i := 801) (by decide +kernel), List.mem_of_getElem? (i := 802) (by decide +kernel)⟩
theorem lw_p51 : lw_okq (⟨"BentPenny$Way", "sideTo", "(I)I"⟩, 7) := ⟨⟨by decide +kernel, by decide +kernel⟩, List.mem_of_getElem? (i := 140) (by decide +kernel), List.mem_of_getElem? (i := 806) (by decide +kernel), List.mem_of_getElem? (i := 807) (by decide +kernel)⟩
theorem lw_p52 : lw_okq (⟨"BentPenny$Odds", "partOf", "(LBentPenny$Table;II)I"⟩, 13) := ⟨⟨by decide +kernel, by decide +kernel⟩, List.mem_of_getElem? (i := 212) (by decide +kernel), List.mem_of_getElem? (i := 810) (by decide +kernel), List.mem_of_getElem? (i := 811) (by decide +kernel)⟩
theorem lw_p53 : lw_okq (⟨"BentPenny$Odds", "tally", "(LBentPenny$Way;I)V"⟩, 13) := ⟨⟨by decide +kernel, by decide +kernel⟩, List.mem_of_getElem? (i := 212) (by decide +kernel), List.mem_of_getElem? (i := 815) (by decide +kernel), List.mem_of_getElem? (i := 816) (by decide +kernel)⟩
theorem lw_p54 : lw_okq (⟨"BentPenny$Odds", "addPowers", "(II)V"⟩, 13) := ⟨⟨by decide +kernel, by decide +kernel⟩, List.mem_of_getElem? (i := 212) (by decide +kernel), List.mem_of_getElem? (i := 820) (by decide +kernel), List.mem_of_getElem? (i := 821) (by decide +kernel)⟩
theorem lw_p55 : lw_okq (⟨"BentPenny$Odds", "areLike", "(II)Z"⟩, 13) := ⟨⟨by decide +kernel, by decide +kernel⟩, List.mem_of_getElem? (i := 212) (by decide +kernel), List.mem_of_getElem? (i := 827) (by decide +kernel), List.mem_of_getElem? (i := 828) (by decide +kernel)⟩
theorem lw_p56 : lw_okq (⟨"BentPenny$Odds", "powerOf", "(II)J"⟩, 13) := ⟨⟨by decide +kernel, by decide +kernel⟩, List.mem_of_getElem? (i := 212) (by decide +kernel), List.mem_of_getElem? (i := 831) (by decide +kernel), List.mem_of_getElem? (i := 832) (by decide +kernel)⟩
theorem lw_p57 : lw_okq (⟨"BentPenny$Odds", "comes", "(I)Z"⟩, 13) := ⟨⟨by decide +kernel, by decide +kernel⟩, List.mem_of_getElem? (i := 212) (by decide +kernel), List.mem_of_getElem? (i := 839) (by decide +kernel), List.mem_of_getElem? (i := 840) (by decide +kernel)⟩
theorem lw_p58 : lw_okq (⟨"BentPenny$Judge", "read", "(LBentPenny$Tokens;LBentPenny$Table;LBentPenny$Way;)Z"⟩, 8) := ⟨⟨by decide +kernel, by decide +kernel⟩, List.mem_of_getElem? (i := 279) (by decide +kernel), List.mem_of_getElem? (i := 847) (by decide +kernel), List.mem_of_getElem? (i := 848) (by decide +kernel)⟩
theorem lw_p59 : lw_okq (⟨"BentPenny$Judge", "readThrow", "(LBentPenny$Tokens;LBentPenny$Table;LBentPenny$Way;)Z"⟩, 8) := ⟨⟨by decide +kernel, by decide +kernel⟩, List.mem_of_getElem? (i := 279) (by decide +kernel), List.mem_of_getElem? (i := 854) (by decide +kernel), List.mem_of_getElem? (i := 855) (by decide +kernel)⟩
theorem lw_p60 : lw_okq (⟨"BentPenny$Judge", "judgeThrow", "(IILBentPenny$Table;LBentPenny$Way;)V"⟩, 8) := ⟨⟨by decide +kernel, by decide +kernel⟩, List.mem_of_getElem? (i := 279) (by decide +kernel), List.mem_of_getElem? (i := 864) (by decide +kernel), List.mem_of_getElem? (i := 865) (by decide +kernel)⟩
theorem lw_p61 : lw_okq (⟨"BentPenny$Way", "endAt", "(I)I"⟩, 7) := ⟨⟨by decide +kernel, by decide +kernel⟩, List.mem_of_getElem? (i := 140) (by decide +kernel), List.mem_of_getElem? (i := 868) (by decide +kernel), List.mem_of_getElem? (i := 869) (by decide +kernel)⟩
theorem lw_p62 : lw_okq (⟨"BentPenny$Judge", "blame", "(I)V"⟩, 8) := ⟨⟨by decide +kernel, by decide +kernel⟩, List.mem_of_getElem? (i := 279) (by decide +kernel), List.mem_of_getElem? (i := 874) (by decide +kernel), List.mem_of_getElem? (i := 875) (by decide +kernel)⟩
theorem lw_p63 : lw_okq (⟨"BentPenny$Way", "landing", "(II)I"⟩, 7) := ⟨⟨by decide +kernel, by decide +kernel⟩, List.mem_of_getElem? (i := 140) (by decide +kernel), List.mem_of_getElem? (i := 882) (by decide +kernel), List.mem_of_getElem? (i := 883) (by decide +kernel)⟩
def lw_privs_4 : List (MethodName × Nat) := [(⟨"BentPenny$Table", "allParts", "(I)I"⟩, 12), (⟨"BentPenny$Odds", "weigh", "(LBentPenny$Table;LBentPenny$Way;I)V"⟩, 13), (⟨"BentPenny$Way", "parentOf", "(I)I"⟩, 7), (⟨"BentPenny$Way", "sideTo", "(I)I"⟩, 7), (⟨"BentPenny$Odds", "partOf", "(LBentPenny$Table;II)I"⟩, 13), (⟨"BentPenny$Odds", "tally", "(LBentPenny$Way;I)V"⟩, 13), (⟨"BentPenny$Odds", "addPowers", "(II)V"⟩, 13), (⟨"BentPenny$Odds", "areLike", "(II)Z"⟩, 13), (⟨"BentPenny$Odds", "powerOf", "(II)J"⟩, 13), (⟨"BentPenny$Odds", "comes", "(I)Z"⟩, 13), (⟨"BentPenny$Judge", "read", "(LBentPenny$Tokens;LBentPenny$Table;LBentPenny$Way;)Z"⟩, 8), (⟨"BentPenny$Judge", "readThrow", "(LBentPenny$Tokens;LBentPenny$Table;LBentPenny$Way;)Z"⟩, 8), (⟨"BentPenny$Judge", "judgeThrow", "(IILBentPenny$Table;LBentPenny$Way;)V"⟩, 8), (⟨"BentPenny$Way", "endAt", "(I)I"⟩, 7), (⟨"BentPenny$Judge", "blame", "(I)V"⟩, 8), (⟨"BentPenny$Way", "landing", "(II)I"⟩, 7)]
theorem lw_r4 : ∀ q ∈ lw_privs_4, lw_okq q := List.forall_mem_cons.mpr ⟨lw_p48, List.forall_mem_cons.mpr ⟨lw_p49, List.forall_mem_cons.mpr ⟨lw_p50, List.forall_mem_cons.mpr ⟨lw_p51, List.forall_mem_cons.mpr ⟨lw_p52, List.forall_mem_cons.mpr ⟨lw_p53, List.forall_mem_cons.mpr ⟨lw_p54, List.forall_mem_cons.mpr ⟨lw_p55, List.forall_mem_cons.mpr ⟨lw_p56, List.forall_mem_cons.mpr ⟨lw_p57, List.forall_mem_cons.mpr ⟨lw_p58, List.forall_mem_cons.mpr ⟨lw_p59, List.forall_mem_cons.mpr ⟨lw_p60, List.forall_mem_cons.mpr ⟨lw_p61, List.forall_mem_cons.mpr ⟨lw_p62, List.forall_mem_cons.mpr ⟨lw_p63, fun _ h => absurd h List.not_mem_nil⟩⟩⟩⟩⟩⟩⟩⟩⟩⟩⟩⟩⟩⟩⟩⟩
theorem lw_p64 : lw_okq (⟨"BentPenny$Judge", "readSo", "(LBentPenny$Tokens;LBentPenny$Table;LBentPenny$Way;)Z"⟩, 8) := ⟨⟨by decide +kernel, by decide +kernel⟩, List.mem_of_getElem? (i := 279) (by decide +kernel), List.mem_of_getElem? (i := 887) (by decide +kernel), List.mem_of_getElem? (i := 888) (by decide +kernel)⟩
theorem lw_p65 : lw_okq (⟨"BentPenny$Judge", "judgeSo", "(ILBentPenny$Way;)V"⟩, 8) := ⟨⟨by decide +kernel, by decide +kernel⟩, List.mem_of_getElem? (i := 279) (by decide +kernel), List.mem_of_getElem? (i := 892) (by decide +kernel), List.mem_of_getElem? (i := 893) (by decide +kernel)⟩
theorem lw_p66 : lw_okq (⟨"BentPenny$Judge", "keep", "(LBentPenny$Way;)V"⟩, 8) := ⟨⟨by decide +kernel, by decide +kernel⟩, List.mem_of_getElem? (i := 279) (by decide +kernel), List.mem_of_getElem? (i := 897) (by decide +kernel), List.mem_of_getElem? (i := 898) (by decide +kernel)⟩
theorem lw_p67 : lw_okq (⟨"BentPenny$Judge", "keptAt", "(I)I"⟩, 8) := ⟨⟨by decide +kernel, by decide +kernel⟩, List.mem_of_getElem? (i := 279) (by decide +kernel), List.mem_of_getElem? (i := 905) (by decide +kernel), List.mem_of_getElem? (i := 906) (by decide +kernel)⟩
theorem lw_p68 : lw_okq (⟨"BentPenny", "takeRow", "(II)I"⟩, 19) := ⟨⟨by decide +kernel, by decide +kernel⟩, List.mem_of_getElem? (i := 24) (by decide +kernel), List.mem_of_getElem? (i := 913) (by decide +kernel), List.mem_of_getElem? (i := 914) (by decide +kernel)⟩
theorem lw_p69 : lw_okq (⟨"BentPenny$Bits", "byPairs", "([BI)I"⟩, 3) := ⟨⟨by decide +kernel, by decide +kernel⟩, List.mem_of_getElem? (i := 311) (by decide +kernel), List.mem_of_getElem? (i := 917) (by decide +kernel), List.mem_of_getElem? (i := 918) (by decide +kernel)⟩
theorem lw_p70 : lw_okq (⟨"BentPenny$Bits", "addPairs", "([BII)V"⟩, 3) := ⟨⟨by decide +kernel, by decide +kernel⟩, List.mem_of_getElem? (i := 311) (by decide +kernel), List.mem_of_getElem? (i := 921) (by decide +kernel), List.mem_of_getElem? (i := 922) (by decide +kernel)⟩
theorem lw_p71 : lw_okq (⟨"BentPenny$Bits", "add", "(I)V"⟩, 3) := ⟨⟨by decide +kernel, by decide +kernel⟩, List.mem_of_getElem? (i := 311) (by decide +kernel), List.mem_of_getElem? (i := 929) (by decide +kernel), List.mem_of_getElem? (i := 930) (by decide +kernel)⟩
theorem lw_p72 : lw_okq (⟨"BentPenny$Bits", "bySparing", "([BI)I"⟩, 3) := ⟨⟨by decide +kernel, by decide +kernel⟩, List.mem_of_getElem? (i := 311) (by decide +kernel), List.mem_of_getElem? (i := 937) (by decide +kernel), List.mem_of_getElem? (i := 938) (by decide +kernel)⟩
theorem lw_p73 : lw_okq (⟨"BentPenny$Bits", "note", "(II)V"⟩, 3) := ⟨⟨by decide +kernel, by decide +kernel⟩, List.mem_of_getElem? (i := 311) (by decide +kernel), List.mem_of_getElem? (i := 941) (by decide +kernel), List.mem_of_getElem? (i := 942) (by decide +kernel)⟩
theorem lw_p74 : lw_okq (⟨"BentPenny$Bits", "spare", "(III)V"⟩, 3) := ⟨⟨by decide +kernel, by decide +kernel⟩, List.mem_of_getElem? (i := 311) (by decide +kernel), List.mem_of_getElem? (i := 945) (by decide +kernel), List.mem_of_getElem? (i := 946) (by decide +kernel)⟩
theorem lw_p75 : lw_okq (⟨"BentPenny$Bits", "byPasts", "([BI)I"⟩, 3) := ⟨⟨by decide +kernel, by decide +kernel⟩, List.mem_of_getElem? (i := 311) (by decide +kernel), List.mem_of_getElem? (i := 953) (by decide +kernel), List.mem_of_getElem? (i := 954) (by decide +kernel)⟩
theorem lw_p76 : lw_okq (⟨"BentPenny$Bits", "addPairsBehind", "([BII)V"⟩, 3) := ⟨⟨by decide +kernel, by decide +kernel⟩, List.mem_of_getElem? (i := 311) (by decide +kernel), List.mem_of_getElem? (i := 957) (by decide +kernel), List.mem_of_getElem? (i := 958) (by decide +kernel)⟩
theorem lw_p77 : lw_okq (⟨"BentPenny$Bits", "byCounting", "([BI)I"⟩, 3) := ⟨⟨by decide +kernel, by decide +kernel⟩, List.mem_of_getElem? (i := 311) (by decide +kernel), List.mem_of_getElem? (i := 965) (by decide +kernel), List.mem_of_getElem? (i := 966) (by decide +kernel)⟩
theorem lw_p78 : lw_okq (⟨"BentPenny$Bits", "addLowest", "(JI)V"⟩, 3) := ⟨⟨by decide +kernel, by decide +kernel⟩, List.mem_of_getElem? (i := 311) (by decide +kernel), List.mem_of_getElem? (i := 973) (by decide +kernel), List.mem_of_getElem? (i := 974) (by decide +kernel)⟩
theorem lw_p79 : lw_okq (⟨"BentPenny$Bits", "at", "(I)I"⟩, 3) := ⟨⟨by decide +kernel, by decide +kernel⟩, List.mem_of_getElem? (i := 311) (by decide +kernel), List.mem_of_getElem? (i := 981) (by decide +kernel), List.mem_of_getElem? (i := 982) (by decide +kernel)⟩
def lw_privs_5 : List (MethodName × Nat) := [(⟨"BentPenny$Judge", "readSo", "(LBentPenny$Tokens;LBentPenny$Table;LBentPenny$Way;)Z"⟩, 8), (⟨"BentPenny$Judge", "judgeSo", "(ILBentPenny$Way;)V"⟩, 8), (⟨"BentPenny$Judge", "keep", "(LBentPenny$Way;)V"⟩, 8), (⟨"BentPenny$Judge", "keptAt", "(I)I"⟩, 8), (⟨"BentPenny", "takeRow", "(II)I"⟩, 19), (⟨"BentPenny$Bits", "byPairs", "([BI)I"⟩, 3), (⟨"BentPenny$Bits", "addPairs", "([BII)V"⟩, 3), (⟨"BentPenny$Bits", "add", "(I)V"⟩, 3), (⟨"BentPenny$Bits", "bySparing", "([BI)I"⟩, 3), (⟨"BentPenny$Bits", "note", "(II)V"⟩, 3), (⟨"BentPenny$Bits", "spare", "(III)V"⟩, 3), (⟨"BentPenny$Bits", "byPasts", "([BI)I"⟩, 3), (⟨"BentPenny$Bits", "addPairsBehind", "([BII)V"⟩, 3), (⟨"BentPenny$Bits", "byCounting", "([BI)I"⟩, 3), (⟨"BentPenny$Bits", "addLowest", "(JI)V"⟩, 3), (⟨"BentPenny$Bits", "at", "(I)I"⟩, 3)]
theorem lw_r5 : ∀ q ∈ lw_privs_5, lw_okq q := List.forall_mem_cons.mpr ⟨lw_p64, List.forall_mem_cons.mpr ⟨lw_p65, List.forall_mem_cons.mpr ⟨lw_p66, List.forall_mem_cons.mpr ⟨lw_p67, List.forall_mem_cons.mpr ⟨lw_p68, List.forall_mem_cons.mpr ⟨lw_p69, List.forall_mem_cons.mpr ⟨lw_p70, List.forall_mem_cons.mpr ⟨lw_p71, List.forall_mem_cons.mpr ⟨lw_p72, List.forall_mem_cons.mpr ⟨lw_p73, List.forall_mem_cons.mpr ⟨lw_p74, List.forall_mem_cons.mpr ⟨lw_p75, List.forall_mem_cons.mpr ⟨lw_p76, List.forall_mem_cons.mpr ⟨lw_p77, List.forall_mem_cons.mpr ⟨lw_p78, List.forall_mem_cons.mpr ⟨lw_p79, fun _ h => absurd h List.not_mem_nil⟩⟩⟩⟩⟩⟩⟩⟩⟩⟩⟩⟩⟩⟩⟩⟩
theorem lw_p80 : lw_okq (⟨"BentPenny$Shares", "shareOut", "(LBentPenny$Table;[BI)I"⟩, 2) := ⟨⟨by decide +kernel, by decide +kernel⟩, List.mem_of_getElem? (i := 327) (by decide +kernel), List.mem_of_getElem? (i := 994) (by decide +kernel), List.mem_of_getElem? (i := 995) (by decide +kernel)⟩
theorem lw_p81 : lw_okq (⟨"BentPenny$Fraction", "put", "(JJ)Z"⟩, 3) := ⟨⟨by decide +kernel, by decide +kernel⟩, List.mem_of_getElem? (i := 262) (by decide +kernel), List.mem_of_getElem? (i := 1026) (by decide +kernel), List.mem_of_getElem? (i := 1027) (by decide +kernel)⟩
theorem lw_p82 : lw_okq (⟨"BentPenny$Best", "search", "(LBentPenny$Table;)I"⟩, 14) := ⟨⟨by decide +kernel, by decide +kernel⟩, List.mem_of_getElem? (i := 341) (by decide +kernel), List.mem_of_getElem? (i := 1040) (by decide +kernel), List.mem_of_getElem? (i := 1041) (by decide +kernel)⟩
theorem lw_p83 : lw_okq (⟨"BentPenny$Table", "isClosedCoin", "(I)Z"⟩, 12) := ⟨⟨by decide +kernel, by decide +kernel⟩, List.mem_of_getElem? (i := 86) (by decide +kernel), List.mem_of_getElem? (i := 1057) (by decide +kernel), List.mem_of_getElem? (i := 1058) (by decide +kernel)⟩
theorem lw_p84 : lw_okq (⟨"BentPenny$Best", "searchCoin", "(III)V"⟩, 14) := ⟨⟨by decide +kernel, by decide +kernel⟩, List.mem_of_getElem? (i := 341) (by decide +kernel), List.mem_of_getElem? (i := 1062) (by decide +kernel), List.mem_of_getElem? (i := 1063) (by decide +kernel)⟩
theorem lw_p85 : lw_okq (⟨"BentPenny$Best", "weigh", "(IIIII)V"⟩, 14) := ⟨⟨by decide +kernel, by decide +kernel⟩, List.mem_of_getElem? (i := 341) (by decide +kernel), List.mem_of_getElem? (i := 1066) (by decide +kernel), List.mem_of_getElem? (i := 1067) (by decide +kernel)⟩
theorem lw_p86 : lw_okq (⟨"BentPenny$Best", "build", "(LBentPenny$Way;)V"⟩, 14) := ⟨⟨by decide +kernel, by decide +kernel⟩, List.mem_of_getElem? (i := 341) (by decide +kernel), List.mem_of_getElem? (i := 1080) (by decide +kernel), List.mem_of_getElem? (i := 1081) (by decide +kernel)⟩
theorem lw_p87 : lw_okq (⟨"BentPenny$Way", "tellInto", "([BLBentPenny$Table;)I"⟩, 7) := ⟨⟨by decide +kernel, by decide +kernel⟩, List.mem_of_getElem? (i := 140) (by decide +kernel), List.mem_of_getElem? (i := 1097) (by decide +kernel), List.mem_of_getElem? (i := 1098) (by decide +kernel)⟩
theorem lw_p88 : lw_okq (⟨"BentPenny$Table", "nameOfEnd", "(I)I"⟩, 12) := ⟨⟨by decide +kernel, by decide +kernel⟩, List.mem_of_getElem? (i := 86) (by decide +kernel), List.mem_of_getElem? (i := 1108) (by decide +kernel), List.mem_of_getElem? (i := 1109) (by decide +kernel)⟩
theorem lw_p89 : lw_okq (⟨"BentPenny$Table", "nameOfThing", "(I)I"⟩, 12) := ⟨⟨by decide +kernel, by decide +kernel⟩, List.mem_of_getElem? (i := 86) (by decide +kernel), List.mem_of_getElem? (i := 1112) (by decide +kernel), List.mem_of_getElem? (i := 1113) (by decide +kernel)⟩
theorem lw_p90 : lw_okq (⟨"BentPenny$Way", "putClosings", "([BILBentPenny$Table;I)I"⟩, 7) := ⟨⟨by decide +kernel, by decide +kernel⟩, List.mem_of_getElem? (i := 140) (by decide +kernel), List.mem_of_getElem? (i := 1116) (by decide +kernel), List.mem_of_getElem? (i := 1117) (by decide +kernel)⟩
theorem lw_p91 : lw_okq (⟨"BentPenny", "canCast", "()Z"⟩, 19) := ⟨⟨by decide +kernel, by decide +kernel⟩, List.mem_of_getElem? (i := 24) (by decide +kernel), List.mem_of_getElem? (i := 1130) (by decide +kernel), List.mem_of_getElem? (i := 1131) (by decide +kernel)⟩
theorem lw_p92 : lw_okq (⟨"BentPenny$Way", "hasThing", "(I)Z"⟩, 7) := ⟨⟨by decide +kernel, by decide +kernel⟩, List.mem_of_getElem? (i := 140) (by decide +kernel), List.mem_of_getElem? (i := 1134) (by decide +kernel), List.mem_of_getElem? (i := 1135) (by decide +kernel)⟩
theorem lw_p93 : lw_okq (⟨"BentPenny", "castOnce", "(II)I"⟩, 19) := ⟨⟨by decide +kernel, by decide +kernel⟩, List.mem_of_getElem? (i := 24) (by decide +kernel), List.mem_of_getElem? (i := 1138) (by decide +kernel), List.mem_of_getElem? (i := 1139) (by decide +kernel)⟩
theorem lw_p94 : lw_okq (⟨"BentPenny$Table", "sideOfDraw", "(II)I"⟩, 12) := ⟨⟨by decide +kernel, by decide +kernel⟩, List.mem_of_getElem? (i := 86) (by decide +kernel), List.mem_of_getElem? (i := 1143) (by decide +kernel), List.mem_of_getElem? (i := 1144) (by decide +kernel)⟩
theorem lw_p95 : lw_okq (⟨"BentPenny$Sentence", "read", "(LBentPenny$Tokens;LBentPenny$Table;)Z"⟩, 5) := ⟨⟨by decide +kernel, by decide +kernel⟩, List.mem_of_getElem? (i := 172) (by decide +kernel), List.mem_of_getElem? (i := 1163) (by decide +kernel), List.mem_of_getElem? (i := 1164) (by decide +kernel)⟩
def lw_privs_6 : List (MethodName × Nat) := [(⟨"BentPenny$Shares", "shareOut", "(LBentPenny$Table;[BI)I"⟩, 2), (⟨"BentPenny$Fraction", "put", "(JJ)Z"⟩, 3), (⟨"BentPenny$Best", "search", "(LBentPenny$Table;)I"⟩, 14), (⟨"BentPenny$Table", "isClosedCoin", "(I)Z"⟩, 12), (⟨"BentPenny$Best", "searchCoin", "(III)V"⟩, 14), (⟨"BentPenny$Best", "weigh", "(IIIII)V"⟩, 14), (⟨"BentPenny$Best", "build", "(LBentPenny$Way;)V"⟩, 14), (⟨"BentPenny$Way", "tellInto", "([BLBentPenny$Table;)I"⟩, 7), (⟨"BentPenny$Table", "nameOfEnd", "(I)I"⟩, 12), (⟨"BentPenny$Table", "nameOfThing", "(I)I"⟩, 12), (⟨"BentPenny$Way", "putClosings", "([BILBentPenny$Table;I)I"⟩, 7), (⟨"BentPenny", "canCast", "()Z"⟩, 19), (⟨"BentPenny$Way", "hasThing", "(I)Z"⟩, 7), (⟨"BentPenny", "castOnce", "(II)I"⟩, 19), (⟨"BentPenny$Table", "sideOfDraw", "(II)I"⟩, 12), (⟨"BentPenny$Sentence", "read", "(LBentPenny$Tokens;LBentPenny$Table;)Z"⟩, 5)]
theorem lw_r6 : ∀ q ∈ lw_privs_6, lw_okq q := List.forall_mem_cons.mpr ⟨lw_p80, List.forall_mem_cons.mpr ⟨lw_p81, List.forall_mem_cons.mpr ⟨lw_p82, List.forall_mem_cons.mpr ⟨lw_p83, List.forall_mem_cons.mpr ⟨lw_p84, List.forall_mem_cons.mpr ⟨lw_p85, List.forall_mem_cons.mpr ⟨lw_p86, List.forall_mem_cons.mpr ⟨lw_p87, List.forall_mem_cons.mpr ⟨lw_p88, List.forall_mem_cons.mpr ⟨lw_p89, List.forall_mem_cons.mpr ⟨lw_p90, List.forall_mem_cons.mpr ⟨lw_p91, List.forall_mem_cons.mpr ⟨lw_p92, List.forall_mem_cons.mpr ⟨lw_p93, List.forall_mem_cons.mpr ⟨lw_p94, List.forall_mem_cons.mpr ⟨lw_p95, fun _ h => absurd h List.not_mem_nil⟩⟩⟩⟩⟩⟩⟩⟩⟩⟩⟩⟩⟩⟩⟩⟩
theorem lw_p96 : lw_okq (⟨"BentPenny$Sentence", "readCondition", "(LBentPenny$Tokens;LBentPenny$Table;I)Z"⟩, 5) := ⟨⟨by decide +kernel, by decide +kernel⟩, List.mem_of_getElem? (i := 172) (by decide +kernel), List.mem_of_getElem? (i := 1168) (by decide +kernel), List.mem_of_getElem? (i := 1169) (by decide +kernel)⟩
theorem lw_p97 : lw_okq (⟨"BentPenny$Sentence", "readAll", "(LBentPenny$Tokens;LBentPenny$Table;I)Z"⟩, 5) := ⟨⟨by decide +kernel, by decide +kernel⟩, List.mem_of_getElem? (i := 172) (by decide +kernel), List.mem_of_getElem? (i := 1172) (by decide +kernel), List.mem_of_getElem? (i := 1173) (by decide +kernel)⟩
theorem lw_p98 : lw_okq (⟨"BentPenny$Sentence", "readOne", "(LBentPenny$Tokens;LBentPenny$Table;I)Z"⟩, 5) := ⟨⟨by decide +kernel, by decide +kernel⟩, List.mem_of_getElem? (i := 172) (by decide +kernel), List.mem_of_getElem? (i := 1176) (by decide +kernel), List.mem_of_getElem? (i := 1177) (by decide +kernel)⟩
theorem lw_p99 : lw_okq (⟨"BentPenny$Sentence", "readSized", "(LBentPenny$Tokens;)Z"⟩, 5) := ⟨⟨by decide +kernel, by decide +kernel⟩, List.mem_of_getElem? (i := 172) (by decide +kernel), List.mem_of_getElem? (i := 1189) (by decide +kernel), List.mem_of_getElem? (i := 1190) (by decide +kernel)⟩
theorem lw_p100 : lw_okq (⟨"BentPenny$Sentence", "add", "(III)Z"⟩, 5) := ⟨⟨by decide +kernel, by decide +kernel⟩, List.mem_of_getElem? (i := 172) (by decide +kernel), List.mem_of_getElem? (i := 1195) (by decide +kernel), List.mem_of_getElem? (i := 1196) (by decide +kernel)⟩
theorem lw_p101 : lw_okq (⟨"BentPenny$Sentence", "readLike", "(LBentPenny$Tokens;LBentPenny$Table;)Z"⟩, 5) := ⟨⟨by decide +kernel, by decide +kernel⟩, List.mem_of_getElem? (i := 172) (by decide +kernel), List.mem_of_getElem? (i := 1201) (by decide +kernel), List.mem_of_getElem? (i := 1202) (by decide +kernel)⟩
theorem lw_p102 : lw_okq (⟨"BentPenny$Sentence", "copyFrom", "(LBentPenny$Sentence;)V"⟩, 5) := ⟨⟨by decide +kernel, by decide +kernel⟩, List.mem_of_getElem? (i := 172) (by decide +kernel), List.mem_of_getElem? (i := 1210) (by decide +kernel), List.mem_of_getElem? (i := 1211) (by decide +kernel)⟩
theorem lw_p103 : lw_okq (⟨"BentPenny$Sentence", "isTold", "()Z"⟩, 5) := ⟨⟨by decide +kernel, by decide +kernel⟩, List.mem_of_getElem? (i := 172) (by decide +kernel), List.mem_of_getElem? (i := 1218) (by decide +kernel), List.mem_of_getElem? (i := 1219) (by decide +kernel)⟩
theorem lw_p104 : lw_okq (⟨"BentPenny$Sentence", "holdsFor", "(ILBentPenny$Table;LBentPenny$Way;LBentPenny$Odds;)Z"⟩, 5) := ⟨⟨by decide +kernel, by decide +kernel⟩, List.mem_of_getElem? (i := 172) (by decide +kernel), List.mem_of_getElem? (i := 1222) (by decide +kernel), List.mem_of_getElem? (i := 1223) (by decide +kernel)⟩
theorem lw_p105 : lw_okq (⟨"BentPenny$Sentence", "isFact", "(IILBentPenny$Table;LBentPenny$Way;LBentPenny$Odds;)Z"⟩, 5) := ⟨⟨by decide +kernel, by decide +kernel⟩, List.mem_of_getElem? (i := 172) (by decide +kernel), List.mem_of_getElem? (i := 1226) (by decide +kernel), List.mem_of_getElem? (i := 1227) (by decide +kernel)⟩
theorem lw_p106 : lw_okq (⟨"BentPenny$Way", "knotsOf", "(I)I"⟩, 7) := ⟨⟨by decide +kernel, by decide +kernel⟩, List.mem_of_getElem? (i := 140) (by decide +kernel), List.mem_of_getElem? (i := 1236) (by decide +kernel), List.mem_of_getElem? (i := 1237) (by decide +kernel)⟩
theorem lw_p107 : lw_okq (⟨"BentPenny", "imageAt", "(I)LBentPenny$State;"⟩, 19) := ⟨⟨by decide +kernel, by decide +kernel⟩, List.mem_of_getElem? (i := 24) (by decide +kernel), List.mem_of_getElem? (i := 1245) (by decide +kernel), List.mem_of_getElem? (i := 1246) (by decide +kernel)⟩
theorem lw_p108 : lw_okq (⟨"BentPenny$State", "copyFrom", "(LBentPenny$State;)V"⟩, 4) := ⟨⟨by decide +kernel, by decide +kernel⟩, List.mem_of_getElem? (i := 80) (by decide +kernel), List.mem_of_getElem? (i := 1249) (by decide +kernel), List.mem_of_getElem? (i := 1250) (by decide +kernel)⟩
theorem lw_p109 : lw_okq (⟨"java/lang/Throwable", "fillInStackTrace", "(I)Ljava/lang/Throwable;"⟩, 6) := ⟨⟨by decide +kernel, by decide +kernel⟩, List.mem_of_getElem? (i := 1309) (by decide +kernel), List.mem_of_getElem? (i := 1307) (by decide +kernel), List.mem_of_getElem? (i := 1308) (by decide +kernel)⟩
theorem lw_p110 : lw_okq (⟨"BentPenny", "spreadBy", "(III)Z"⟩, 19) := ⟨⟨by decide +kernel, by decide +kernel⟩, List.mem_of_getElem? (i := 24) (by decide +kernel), List.mem_of_getElem? (i := 1342) (by decide +kernel), List.mem_of_getElem? (i := 1343) (by decide +kernel)⟩
theorem lw_p111 : lw_okq (⟨"BentPenny$Odds", "endWeight", "(I)J"⟩, 13) := ⟨⟨by decide +kernel, by decide +kernel⟩, List.mem_of_getElem? (i := 212) (by decide +kernel), List.mem_of_getElem? (i := 1347) (by decide +kernel), List.mem_of_getElem? (i := 1348) (by decide +kernel)⟩
def lw_privs_7 : List (MethodName × Nat) := [(⟨"BentPenny$Sentence", "readCondition", "(LBentPenny$Tokens;LBentPenny$Table;I)Z"⟩, 5), (⟨"BentPenny$Sentence", "readAll", "(LBentPenny$Tokens;LBentPenny$Table;I)Z"⟩, 5), (⟨"BentPenny$Sentence", "readOne", "(LBentPenny$Tokens;LBentPenny$Table;I)Z"⟩, 5), (⟨"BentPenny$Sentence", "readSized", "(LBentPenny$Tokens;)Z"⟩, 5), (⟨"BentPenny$Sentence", "add", "(III)Z"⟩, 5), (⟨"BentPenny$Sentence", "readLike", "(LBentPenny$Tokens;LBentPenny$Table;)Z"⟩, 5), (⟨"BentPenny$Sentence", "copyFrom", "(LBentPenny$Sentence;)V"⟩, 5), (⟨"BentPenny$Sentence", "isTold", "()Z"⟩, 5), (⟨"BentPenny$Sentence", "holdsFor", "(ILBentPenny$Table;LBentPenny$Way;LBentPenny$Odds;)Z"⟩, 5), (⟨"BentPenny$Sentence", "isFact", "(IILBentPenny$Table;LBentPenny$Way;LBentPenny$Odds;)Z"⟩, 5), (⟨"BentPenny$Way", "knotsOf", "(I)I"⟩, 7), (⟨"BentPenny", "imageAt", "(I)LBentPenny$State;"⟩, 19), (⟨"BentPenny$State", "copyFrom", "(LBentPenny$State;)V"⟩, 4), (⟨"java/lang/Throwable", "fillInStackTrace", "(I)Ljava/lang/Throwable;"⟩, 6), (⟨"BentPenny", "spreadBy", "(III)Z"⟩, 19), (⟨"BentPenny$Odds", "endWeight", "(I)J"⟩, 13)]
theorem lw_r7 : ∀ q ∈ lw_privs_7, lw_okq q := List.forall_mem_cons.mpr ⟨lw_p96, List.forall_mem_cons.mpr ⟨lw_p97, List.forall_mem_cons.mpr ⟨lw_p98, List.forall_mem_cons.mpr ⟨lw_p99, List.forall_mem_cons.mpr ⟨lw_p100, List.forall_mem_cons.mpr ⟨lw_p101, List.forall_mem_cons.mpr ⟨lw_p102, List.forall_mem_cons.mpr ⟨lw_p103, List.forall_mem_cons.mpr ⟨lw_p104, List.forall_mem_cons.mpr ⟨lw_p105, List.forall_mem_cons.mpr ⟨lw_p106, List.forall_mem_cons.mpr ⟨lw_p107, List.forall_mem_cons.mpr ⟨lw_p108, List.forall_mem_cons.mpr ⟨lw_p109, List.forall_mem_cons.mpr ⟨lw_p110, List.forall_mem_cons.mpr ⟨lw_p111, fun _ h => absurd h List.not_mem_nil⟩⟩⟩⟩⟩⟩⟩⟩⟩⟩⟩⟩⟩⟩⟩⟩
theorem lw_p112 : lw_okq (⟨"BentPenny", "told", "(JJI)J"⟩, 19) := ⟨⟨by decide +kernel, by decide +kernel⟩, List.mem_of_getElem? (i := 24) (by decide +kernel), List.mem_of_getElem? (i := 1351) (by decide +kernel), List.mem_of_getElem? (i := 1352) (by decide +kernel)⟩
theorem lw_p113 : lw_okq (⟨"BentPenny$Fraction", "part", "(I)J"⟩, 3) := ⟨⟨by decide +kernel, by decide +kernel⟩, List.mem_of_getElem? (i := 262) (by decide +kernel), List.mem_of_getElem? (i := 1355) (by decide +kernel), List.mem_of_getElem? (i := 1356) (by decide +kernel)⟩
theorem lw_p114 : lw_okq (⟨"BentPenny$Table", "sidesAlike", "(I)I"⟩, 12) := ⟨⟨by decide +kernel, by decide +kernel⟩, List.mem_of_getElem? (i := 86) (by decide +kernel), List.mem_of_getElem? (i := 1426) (by decide +kernel), List.mem_of_getElem? (i := 1427) (by decide +kernel)⟩
theorem lw_p115 : lw_okq (⟨"BentPenny$Odds", "mix", "(LBentPenny$Table;II)V"⟩, 13) := ⟨⟨by decide +kernel, by decide +kernel⟩, List.mem_of_getElem? (i := 212) (by decide +kernel), List.mem_of_getElem? (i := 1431) (by decide +kernel), List.mem_of_getElem? (i := 1432) (by decide +kernel)⟩
theorem lw_p116 : lw_okq (⟨"BentPenny$Odds", "mixIn", "(LBentPenny$Table;II)V"⟩, 13) := ⟨⟨by decide +kernel, by decide +kernel⟩, List.mem_of_getElem? (i := 212) (by decide +kernel), List.mem_of_getElem? (i := 1435) (by decide +kernel), List.mem_of_getElem? (i := 1436) (by decide +kernel)⟩
theorem lw_p117 : lw_okq (⟨"BentPenny$Odds", "restWeight", "(I)J"⟩, 13) := ⟨⟨by decide +kernel, by decide +kernel⟩, List.mem_of_getElem? (i := 212) (by decide +kernel), List.mem_of_getElem? (i := 1439) (by decide +kernel), List.mem_of_getElem? (i := 1440) (by decide +kernel)⟩
theorem lw_p118 : lw_okq (⟨"BentPennyModel", "come", "(I)V"⟩, 75) := ⟨⟨by decide +kernel, by decide +kernel⟩, List.mem_of_getElem? (i := 1467) (by decide +kernel), List.mem_of_getElem? (i := 1707) (by decide +kernel), List.mem_of_getElem? (i := 1708) (by decide +kernel)⟩
theorem lw_p119 : lw_okq (⟨"BentPennyModel", "begin", "(I)V"⟩, 75) := ⟨⟨by decide +kernel, by decide +kernel⟩, List.mem_of_getElem? (i := 1467) (by decide +kernel), List.mem_of_getElem? (i := 1719) (by decide +kernel), List.mem_of_getElem? (i := 1720) (by decide +kernel)⟩
theorem lw_p120 : lw_okq (⟨"BentPennyModel", "lay", "()V"⟩, 75) := ⟨⟨by decide +kernel, by decide +kernel⟩, List.mem_of_getElem? (i := 1467) (by decide +kernel), List.mem_of_getElem? (i := 1723) (by decide +kernel), List.mem_of_getElem? (i := 1724) (by decide +kernel)⟩
theorem lw_p121 : lw_okq (⟨"BentPennyModel", "gather", "()I"⟩, 75) := ⟨⟨by decide +kernel, by decide +kernel⟩, List.mem_of_getElem? (i := 1467) (by decide +kernel), List.mem_of_getElem? (i := 1727) (by decide +kernel), List.mem_of_getElem? (i := 1728) (by decide +kernel)⟩
theorem lw_p122 : lw_okq (⟨"BentPennyModel", "go", "()V"⟩, 75) := ⟨⟨by decide +kernel, by decide +kernel⟩, List.mem_of_getElem? (i := 1467) (by decide +kernel), List.mem_of_getElem? (i := 1731) (by decide +kernel), List.mem_of_getElem? (i := 1732) (by decide +kernel)⟩
theorem lw_p123 : lw_okq (⟨"BentPennyModel", "tapeAt", "(I)I"⟩, 75) := ⟨⟨by decide +kernel, by decide +kernel⟩, List.mem_of_getElem? (i := 1467) (by decide +kernel), List.mem_of_getElem? (i := 1741) (by decide +kernel), List.mem_of_getElem? (i := 1742) (by decide +kernel)⟩
theorem lw_p124 : lw_okq (⟨"BentPennyModel", "isWord", "(I)Z"⟩, 75) := ⟨⟨by decide +kernel, by decide +kernel⟩, List.mem_of_getElem? (i := 1467) (by decide +kernel), List.mem_of_getElem? (i := 1747) (by decide +kernel), List.mem_of_getElem? (i := 1748) (by decide +kernel)⟩
theorem lw_p125 : lw_okq (⟨"BentPennyModel", "readCoin", "()Z"⟩, 75) := ⟨⟨by decide +kernel, by decide +kernel⟩, List.mem_of_getElem? (i := 1467) (by decide +kernel), List.mem_of_getElem? (i := 1757) (by decide +kernel), List.mem_of_getElem? (i := 1758) (by decide +kernel)⟩
theorem lw_p126 : lw_okq (⟨"BentPennyModel", "bad", "(I)Z"⟩, 75) := ⟨⟨by decide +kernel, by decide +kernel⟩, List.mem_of_getElem? (i := 1467) (by decide +kernel), List.mem_of_getElem? (i := 1761) (by decide +kernel), List.mem_of_getElem? (i := 1762) (by decide +kernel)⟩
theorem lw_p127 : lw_okq (⟨"BentPennyModel", "readNew", "(I)Z"⟩, 75) := ⟨⟨by decide +kernel, by decide +kernel⟩, List.mem_of_getElem? (i := 1467) (by decide +kernel), List.mem_of_getElem? (i := 1765) (by decide +kernel), List.mem_of_getElem? (i := 1766) (by decide +kernel)⟩
def lw_privs_8 : List (MethodName × Nat) := [(⟨"BentPenny", "told", "(JJI)J"⟩, 19), (⟨"BentPenny$Fraction", "part", "(I)J"⟩, 3), (⟨"BentPenny$Table", "sidesAlike", "(I)I"⟩, 12), (⟨"BentPenny$Odds", "mix", "(LBentPenny$Table;II)V"⟩, 13), (⟨"BentPenny$Odds", "mixIn", "(LBentPenny$Table;II)V"⟩, 13), (⟨"BentPenny$Odds", "restWeight", "(I)J"⟩, 13), (⟨"BentPennyModel", "come", "(I)V"⟩, 75), (⟨"BentPennyModel", "begin", "(I)V"⟩, 75), (⟨"BentPennyModel", "lay", "()V"⟩, 75), (⟨"BentPennyModel", "gather", "()I"⟩, 75), (⟨"BentPennyModel", "go", "()V"⟩, 75), (⟨"BentPennyModel", "tapeAt", "(I)I"⟩, 75), (⟨"BentPennyModel", "isWord", "(I)Z"⟩, 75), (⟨"BentPennyModel", "readCoin", "()Z"⟩, 75), (⟨"BentPennyModel", "bad", "(I)Z"⟩, 75), (⟨"BentPennyModel", "readNew", "(I)Z"⟩, 75)]
theorem lw_r8 : ∀ q ∈ lw_privs_8, lw_okq q := List.forall_mem_cons.mpr ⟨lw_p112, List.forall_mem_cons.mpr ⟨lw_p113, List.forall_mem_cons.mpr ⟨lw_p114, List.forall_mem_cons.mpr ⟨lw_p115, List.forall_mem_cons.mpr ⟨lw_p116, List.forall_mem_cons.mpr ⟨lw_p117, List.forall_mem_cons.mpr ⟨lw_p118, List.forall_mem_cons.mpr ⟨lw_p119, List.forall_mem_cons.mpr ⟨lw_p120, List.forall_mem_cons.mpr ⟨lw_p121, List.forall_mem_cons.mpr ⟨lw_p122, List.forall_mem_cons.mpr ⟨lw_p123, List.forall_mem_cons.mpr ⟨lw_p124, List.forall_mem_cons.mpr ⟨lw_p125, List.forall_mem_cons.mpr ⟨lw_p126, List.forall_mem_cons.mpr ⟨lw_p127, fun _ h => absurd h List.not_mem_nil⟩⟩⟩⟩⟩⟩⟩⟩⟩⟩⟩⟩⟩⟩⟩⟩
theorem lw_p128 : lw_okq (⟨"BentPennyModel", "isName", "()Z"⟩, 75) := ⟨⟨by decide +kernel, by decide +kernel⟩, List.mem_of_getElem? (i := 1467) (by decide +kernel), List.mem_of_getElem? (i := 1769) (by decide +kernel), List.mem_of_getElem? (i := 1770) (by decide +kernel)⟩
theorem lw_p129 : lw_okq (⟨"BentPennyModel", "readOf", "(II)Z"⟩, 75) := ⟨⟨by decide +kernel, by decide +kernel⟩, List.mem_of_getElem? (i := 1467) (by decide +kernel), List.mem_of_getElem? (i := 1776) (by decide +kernel), List.mem_of_getElem? (i := 1777) (by decide +kernel)⟩
theorem lw_p130 : lw_okq (⟨"BentPennyModel", "readNumber", "(II)Z"⟩, 75) := ⟨⟨by decide +kernel, by decide +kernel⟩, List.mem_of_getElem? (i := 1467) (by decide +kernel), List.mem_of_getElem? (i := 1780) (by decide +kernel), List.mem_of_getElem? (i := 1781) (by decide +kernel)⟩
theorem lw_p131 : lw_okq (⟨"BentPennyModel", "readWheel", "()Z"⟩, 75) := ⟨⟨by decide +kernel, by decide +kernel⟩, List.mem_of_getElem? (i := 1467) (by decide +kernel), List.mem_of_getElem? (i := 1787) (by decide +kernel), List.mem_of_getElem? (i := 1788) (by decide +kernel)⟩
theorem lw_p132 : lw_okq (⟨"BentPennyModel", "readEnd", "()Z"⟩, 75) := ⟨⟨by decide +kernel, by decide +kernel⟩, List.mem_of_getElem? (i := 1467) (by decide +kernel), List.mem_of_getElem? (i := 1791) (by decide +kernel), List.mem_of_getElem? (i := 1792) (by decide +kernel)⟩
theorem lw_p133 : lw_okq (⟨"BentPennyModel", "readSign", "(I)Z"⟩, 75) := ⟨⟨by decide +kernel, by decide +kernel⟩, List.mem_of_getElem? (i := 1467) (by decide +kernel), List.mem_of_getElem? (i := 1795) (by decide +kernel), List.mem_of_getElem? (i := 1796) (by decide +kernel)⟩
theorem lw_p134 : lw_okq (⟨"BentPennyModel", "isSign", "(I)Z"⟩, 75) := ⟨⟨by decide +kernel, by decide +kernel⟩, List.mem_of_getElem? (i := 1467) (by decide +kernel), List.mem_of_getElem? (i := 1799) (by decide +kernel), List.mem_of_getElem? (i := 1800) (by decide +kernel)⟩
theorem lw_p135 : lw_okq (⟨"BentPennyModel", "isThing", "(I)Z"⟩, 75) := ⟨⟨by decide +kernel, by decide +kernel⟩, List.mem_of_getElem? (i := 1467) (by decide +kernel), List.mem_of_getElem? (i := 1811) (by decide +kernel), List.mem_of_getElem? (i := 1812) (by decide +kernel)⟩
theorem lw_p136 : lw_okq (⟨"BentPennyModel", "things", "()I"⟩, 75) := ⟨⟨by decide +kernel, by decide +kernel⟩, List.mem_of_getElem? (i := 1467) (by decide +kernel), List.mem_of_getElem? (i := 1815) (by decide +kernel), List.mem_of_getElem? (i := 1816) (by decide +kernel)⟩
theorem lw_p137 : lw_okq (⟨"BentPennyModel", "refuse", "()I"⟩, 75) := ⟨⟨by decide +kernel, by decide +kernel⟩, List.mem_of_getElem? (i := 1467) (by decide +kernel), List.mem_of_getElem? (i := 1819) (by decide +kernel), List.mem_of_getElem? (i := 1820) (by decide +kernel)⟩
theorem lw_p138 : lw_okq (⟨"BentPennyModel", "isEnd", "(I)Z"⟩, 75) := ⟨⟨by decide +kernel, by decide +kernel⟩, List.mem_of_getElem? (i := 1467) (by decide +kernel), List.mem_of_getElem? (i := 1840) (by decide +kernel), List.mem_of_getElem? (i := 1841) (by decide +kernel)⟩
theorem lw_p139 : lw_okq (⟨"BentPennyModel", "ends", "()I"⟩, 75) := ⟨⟨by decide +kernel, by decide +kernel⟩, List.mem_of_getElem? (i := 1467) (by decide +kernel), List.mem_of_getElem? (i := 1844) (by decide +kernel), List.mem_of_getElem? (i := 1845) (by decide +kernel)⟩
theorem lw_p140 : lw_okq (⟨"BentPennyModel", "readNode", "(I)Z"⟩, 75) := ⟨⟨by decide +kernel, by decide +kernel⟩, List.mem_of_getElem? (i := 1467) (by decide +kernel), List.mem_of_getElem? (i := 1852) (by decide +kernel), List.mem_of_getElem? (i := 1853) (by decide +kernel)⟩
theorem lw_p141 : lw_okq (⟨"BentPennyModel", "lays", "(II)I"⟩, 75) := ⟨⟨by decide +kernel, by decide +kernel⟩, List.mem_of_getElem? (i := 1467) (by decide +kernel), List.mem_of_getElem? (i := 1856) (by decide +kernel), List.mem_of_getElem? (i := 1857) (by decide +kernel)⟩
theorem lw_p142 : lw_okq (⟨"BentPennyModel", "readSides", "(III)Z"⟩, 75) := ⟨⟨by decide +kernel, by decide +kernel⟩, List.mem_of_getElem? (i := 1467) (by decide +kernel), List.mem_of_getElem? (i := 1860) (by decide +kernel), List.mem_of_getElem? (i := 1861) (by decide +kernel)⟩
theorem lw_p143 : lw_okq (⟨"BentPennyModel", "isNode", "(I)Z"⟩, 75) := ⟨⟨by decide +kernel, by decide +kernel⟩, List.mem_of_getElem? (i := 1467) (by decide +kernel), List.mem_of_getElem? (i := 1868) (by decide +kernel), List.mem_of_getElem? (i := 1869) (by decide +kernel)⟩
def lw_privs_9 : List (MethodName × Nat) := [(⟨"BentPennyModel", "isName", "()Z"⟩, 75), (⟨"BentPennyModel", "readOf", "(II)Z"⟩, 75), (⟨"BentPennyModel", "readNumber", "(II)Z"⟩, 75), (⟨"BentPennyModel", "readWheel", "()Z"⟩, 75), (⟨"BentPennyModel", "readEnd", "()Z"⟩, 75), (⟨"BentPennyModel", "readSign", "(I)Z"⟩, 75), (⟨"BentPennyModel", "isSign", "(I)Z"⟩, 75), (⟨"BentPennyModel", "isThing", "(I)Z"⟩, 75), (⟨"BentPennyModel", "things", "()I"⟩, 75), (⟨"BentPennyModel", "refuse", "()I"⟩, 75), (⟨"BentPennyModel", "isEnd", "(I)Z"⟩, 75), (⟨"BentPennyModel", "ends", "()I"⟩, 75), (⟨"BentPennyModel", "readNode", "(I)Z"⟩, 75), (⟨"BentPennyModel", "lays", "(II)I"⟩, 75), (⟨"BentPennyModel", "readSides", "(III)Z"⟩, 75), (⟨"BentPennyModel", "isNode", "(I)Z"⟩, 75)]
theorem lw_r9 : ∀ q ∈ lw_privs_9, lw_okq q := List.forall_mem_cons.mpr ⟨lw_p128, List.forall_mem_cons.mpr ⟨lw_p129, List.forall_mem_cons.mpr ⟨lw_p130, List.forall_mem_cons.mpr ⟨lw_p131, List.forall_mem_cons.mpr ⟨lw_p132, List.forall_mem_cons.mpr ⟨lw_p133, List.forall_mem_cons.mpr ⟨lw_p134, List.forall_mem_cons.mpr ⟨lw_p135, List.forall_mem_cons.mpr ⟨lw_p136, List.forall_mem_cons.mpr ⟨lw_p137, List.forall_mem_cons.mpr ⟨lw_p138, List.forall_mem_cons.mpr ⟨lw_p139, List.forall_mem_cons.mpr ⟨lw_p140, List.forall_mem_cons.mpr ⟨lw_p141, List.forall_mem_cons.mpr ⟨lw_p142, List.forall_mem_cons.mpr ⟨lw_p143, fun _ h => absurd h List.not_mem_nil⟩⟩⟩⟩⟩⟩⟩⟩⟩⟩⟩⟩⟩⟩⟩⟩
theorem lw_p144 : lw_okq (⟨"BentPennyModel", "sortOf", "(I)I"⟩, 75) := ⟨⟨by decide +kernel, by decide +kernel⟩, List.mem_of_getElem? (i := 1467) (by decide +kernel), List.mem_of_getElem? (i := 1872) (by decide +kernel), List.mem_of_getElem? (i := 1873) (by decide +kernel)⟩
theorem lw_p145 : lw_okq (⟨"BentPennyModel", "whichOf", "(I)I"⟩, 75) := ⟨⟨by decide +kernel, by decide +kernel⟩, List.mem_of_getElem? (i := 1467) (by decide +kernel), List.mem_of_getElem? (i := 1880) (by decide +kernel), List.mem_of_getElem? (i := 1881) (by decide +kernel)⟩
theorem lw_p146 : lw_okq (⟨"BentPennyModel", "nextOf", "(II)I"⟩, 75) := ⟨⟨by decide +kernel, by decide +kernel⟩, List.mem_of_getElem? (i := 1467) (by decide +kernel), List.mem_of_getElem? (i := 1888) (by decide +kernel), List.mem_of_getElem? (i := 1889) (by decide +kernel)⟩
theorem lw_p147 : lw_okq (⟨"BentPennyModel", "hasWay", "()Z"⟩, 75) := ⟨⟨by decide +kernel, by decide +kernel⟩, List.mem_of_getElem? (i := 1467) (by decide +kernel), List.mem_of_getElem? (i := 1896) (by decide +kernel), List.mem_of_getElem? (i := 1897) (by decide +kernel)⟩
theorem lw_p148 : lw_okq (⟨"BentPennyModel", "deepOf", "(I)I"⟩, 75) := ⟨⟨by decide +kernel, by decide +kernel⟩, List.mem_of_getElem? (i := 1467) (by decide +kernel), List.mem_of_getElem? (i := 1900) (by decide +kernel), List.mem_of_getElem? (i := 1901) (by decide +kernel)⟩
theorem lw_p149 : lw_okq (⟨"BentPennyModel", "isOpenIn", "()Z"⟩, 75) := ⟨⟨by decide +kernel, by decide +kernel⟩, List.mem_of_getElem? (i := 1467) (by decide +kernel), List.mem_of_getElem? (i := 1908) (by decide +kernel), List.mem_of_getElem? (i := 1909) (by decide +kernel)⟩
theorem lw_p150 : lw_okq (⟨"BentPennyModel", "isIn", "(II)Z"⟩, 75) := ⟨⟨by decide +kernel, by decide +kernel⟩, List.mem_of_getElem? (i := 1467) (by decide +kernel), List.mem_of_getElem? (i := 1912) (by decide +kernel), List.mem_of_getElem? (i := 1913) (by decide +kernel)⟩
theorem lw_p151 : lw_okq (⟨"BentPennyModel", "layWeights", "(II)Z"⟩, 75) := ⟨⟨by decide +kernel, by decide +kernel⟩, List.mem_of_getElem? (i := 1467) (by decide +kernel), List.mem_of_getElem? (i := 1916) (by decide +kernel), List.mem_of_getElem? (i := 1917) (by decide +kernel)⟩
theorem lw_p152 : lw_okq (⟨"BentPennyModel", "allOf", "(I)I"⟩, 75) := ⟨⟨by decide +kernel, by decide +kernel⟩, List.mem_of_getElem? (i := 1467) (by decide +kernel), List.mem_of_getElem? (i := 1920) (by decide +kernel), List.mem_of_getElem? (i := 1921) (by decide +kernel)⟩
theorem lw_p153 : lw_okq (⟨"BentPennyModel", "weigh", "(IJI)V"⟩, 75) := ⟨⟨by decide +kernel, by decide +kernel⟩, List.mem_of_getElem? (i := 1467) (by decide +kernel), List.mem_of_getElem? (i := 1924) (by decide +kernel), List.mem_of_getElem? (i := 1925) (by decide +kernel)⟩
theorem lw_p154 : lw_okq (⟨"BentPennyModel", "partOf", "(II)I"⟩, 75) := ⟨⟨by decide +kernel, by decide +kernel⟩, List.mem_of_getElem? (i := 1467) (by decide +kernel), List.mem_of_getElem? (i := 1928) (by decide +kernel), List.mem_of_getElem? (i := 1929) (by decide +kernel)⟩
theorem lw_p155 : lw_okq (⟨"BentPennyModel", "refuseLong", "()J"⟩, 75) := ⟨⟨by decide +kernel, by decide +kernel⟩, List.mem_of_getElem? (i := 1467) (by decide +kernel), List.mem_of_getElem? (i := 1932) (by decide +kernel), List.mem_of_getElem? (i := 1933) (by decide +kernel)⟩
theorem lw_p156 : lw_okq (⟨"BentPennyModel", "layPowers", "()V"⟩, 75) := ⟨⟨by decide +kernel, by decide +kernel⟩, List.mem_of_getElem? (i := 1467) (by decide +kernel), List.mem_of_getElem? (i := 1957) (by decide +kernel), List.mem_of_getElem? (i := 1958) (by decide +kernel)⟩
theorem lw_p157 : lw_okq (⟨"BentPennyModel", "raise", "(IJII)V"⟩, 75) := ⟨⟨by decide +kernel, by decide +kernel⟩, List.mem_of_getElem? (i := 1467) (by decide +kernel), List.mem_of_getElem? (i := 1961) (by decide +kernel), List.mem_of_getElem? (i := 1962) (by decide +kernel)⟩
theorem lw_p158 : lw_okq (⟨"BentPennyModel", "areLike", "(II)Z"⟩, 75) := ⟨⟨by decide +kernel, by decide +kernel⟩, List.mem_of_getElem? (i := 1467) (by decide +kernel), List.mem_of_getElem? (i := 1972) (by decide +kernel), List.mem_of_getElem? (i := 1973) (by decide +kernel)⟩
theorem lw_p159 : lw_okq (⟨"BentPennyModel", "comes", "(I)Z"⟩, 75) := ⟨⟨by decide +kernel, by decide +kernel⟩, List.mem_of_getElem? (i := 1467) (by decide +kernel), List.mem_of_getElem? (i := 1980) (by decide +kernel), List.mem_of_getElem? (i := 1981) (by decide +kernel)⟩
def lw_privs_10 : List (MethodName × Nat) := [(⟨"BentPennyModel", "sortOf", "(I)I"⟩, 75), (⟨"BentPennyModel", "whichOf", "(I)I"⟩, 75), (⟨"BentPennyModel", "nextOf", "(II)I"⟩, 75), (⟨"BentPennyModel", "hasWay", "()Z"⟩, 75), (⟨"BentPennyModel", "deepOf", "(I)I"⟩, 75), (⟨"BentPennyModel", "isOpenIn", "()Z"⟩, 75), (⟨"BentPennyModel", "isIn", "(II)Z"⟩, 75), (⟨"BentPennyModel", "layWeights", "(II)Z"⟩, 75), (⟨"BentPennyModel", "allOf", "(I)I"⟩, 75), (⟨"BentPennyModel", "weigh", "(IJI)V"⟩, 75), (⟨"BentPennyModel", "partOf", "(II)I"⟩, 75), (⟨"BentPennyModel", "refuseLong", "()J"⟩, 75), (⟨"BentPennyModel", "layPowers", "()V"⟩, 75), (⟨"BentPennyModel", "raise", "(IJII)V"⟩, 75), (⟨"BentPennyModel", "areLike", "(II)Z"⟩, 75), (⟨"BentPennyModel", "comes", "(I)Z"⟩, 75)]
theorem lw_r10 : ∀ q ∈ lw_privs_10, lw_okq q := List.forall_mem_cons.mpr ⟨lw_p144, List.forall_mem_cons.mpr ⟨lw_p145, List.forall_mem_cons.mpr ⟨lw_p146, List.forall_mem_cons.mpr ⟨lw_p147, List.forall_mem_cons.mpr ⟨lw_p148, List.forall_mem_cons.mpr ⟨lw_p149, List.forall_mem_cons.mpr ⟨lw_p150, List.forall_mem_cons.mpr ⟨lw_p151, List.forall_mem_cons.mpr ⟨lw_p152, List.forall_mem_cons.mpr ⟨lw_p153, List.forall_mem_cons.mpr ⟨lw_p154, List.forall_mem_cons.mpr ⟨lw_p155, List.forall_mem_cons.mpr ⟨lw_p156, List.forall_mem_cons.mpr ⟨lw_p157, List.forall_mem_cons.mpr ⟨lw_p158, List.forall_mem_cons.mpr ⟨lw_p159, fun _ h => absurd h List.not_mem_nil⟩⟩⟩⟩⟩⟩⟩⟩⟩⟩⟩⟩⟩⟩⟩⟩
theorem lw_p160 : lw_okq (⟨"BentPennyModel", "readSo", "()Z"⟩, 75) := ⟨⟨by decide +kernel, by decide +kernel⟩, List.mem_of_getElem? (i := 1467) (by decide +kernel), List.mem_of_getElem? (i := 1988) (by decide +kernel), List.mem_of_getElem? (i := 1989) (by decide +kernel)⟩
theorem lw_p161 : lw_okq (⟨"BentPennyModel", "judgeLine", "(I)V"⟩, 75) := ⟨⟨by decide +kernel, by decide +kernel⟩, List.mem_of_getElem? (i := 1467) (by decide +kernel), List.mem_of_getElem? (i := 1992) (by decide +kernel), List.mem_of_getElem? (i := 1993) (by decide +kernel)⟩
theorem lw_p162 : lw_okq (⟨"BentPennyModel", "readThrow", "()Z"⟩, 75) := ⟨⟨by decide +kernel, by decide +kernel⟩, List.mem_of_getElem? (i := 1467) (by decide +kernel), List.mem_of_getElem? (i := 1996) (by decide +kernel), List.mem_of_getElem? (i := 1997) (by decide +kernel)⟩
theorem lw_p163 : lw_okq (⟨"BentPennyModel", "whyNot", "(II)I"⟩, 75) := ⟨⟨by decide +kernel, by decide +kernel⟩, List.mem_of_getElem? (i := 1467) (by decide +kernel), List.mem_of_getElem? (i := 2000) (by decide +kernel), List.mem_of_getElem? (i := 2001) (by decide +kernel)⟩
theorem lw_p164 : lw_okq (⟨"BentPennyModel", "takeRow", "(II)I"⟩, 75) := ⟨⟨by decide +kernel, by decide +kernel⟩, List.mem_of_getElem? (i := 1467) (by decide +kernel), List.mem_of_getElem? (i := 2012) (by decide +kernel), List.mem_of_getElem? (i := 2013) (by decide +kernel)⟩
theorem lw_p165 : lw_okq (⟨"BentPennyModel", "pairsOf", "(II)V"⟩, 75) := ⟨⟨by decide +kernel, by decide +kernel⟩, List.mem_of_getElem? (i := 1467) (by decide +kernel), List.mem_of_getElem? (i := 2016) (by decide +kernel), List.mem_of_getElem? (i := 2017) (by decide +kernel)⟩
theorem lw_p166 : lw_okq (⟨"BentPennyModel", "bit", "(Z)V"⟩, 75) := ⟨⟨by decide +kernel, by decide +kernel⟩, List.mem_of_getElem? (i := 1467) (by decide +kernel), List.mem_of_getElem? (i := 2020) (by decide +kernel), List.mem_of_getElem? (i := 2021) (by decide +kernel)⟩
theorem lw_p167 : lw_okq (⟨"BentPennyModel", "tellBits", "()I"⟩, 75) := ⟨⟨by decide +kernel, by decide +kernel⟩, List.mem_of_getElem? (i := 1467) (by decide +kernel), List.mem_of_getElem? (i := 2024) (by decide +kernel), List.mem_of_getElem? (i := 2025) (by decide +kernel)⟩
theorem lw_p168 : lw_okq (⟨"BentPennyModel", "spare", "(II)V"⟩, 75) := ⟨⟨by decide +kernel, by decide +kernel⟩, List.mem_of_getElem? (i := 1467) (by decide +kernel), List.mem_of_getElem? (i := 2032) (by decide +kernel), List.mem_of_getElem? (i := 2033) (by decide +kernel)⟩
theorem lw_p169 : lw_okq (⟨"BentPennyModel", "hasShares", "()Z"⟩, 75) := ⟨⟨by decide +kernel, by decide +kernel⟩, List.mem_of_getElem? (i := 1467) (by decide +kernel), List.mem_of_getElem? (i := 2059) (by decide +kernel), List.mem_of_getElem? (i := 2060) (by decide +kernel)⟩
theorem lw_p170 : lw_okq (⟨"BentPennyModel", "shareBelow", "()I"⟩, 75) := ⟨⟨by decide +kernel, by decide +kernel⟩, List.mem_of_getElem? (i := 1467) (by decide +kernel), List.mem_of_getElem? (i := 2063) (by decide +kernel), List.mem_of_getElem? (i := 2064) (by decide +kernel)⟩
theorem lw_p171 : lw_okq (⟨"BentPennyModel", "shareOf", "(I)I"⟩, 75) := ⟨⟨by decide +kernel, by decide +kernel⟩, List.mem_of_getElem? (i := 1467) (by decide +kernel), List.mem_of_getElem? (i := 2067) (by decide +kernel), List.mem_of_getElem? (i := 2068) (by decide +kernel)⟩
theorem lw_p172 : lw_okq (⟨"BentPennyModel", "all", "()I"⟩, 75) := ⟨⟨by decide +kernel, by decide +kernel⟩, List.mem_of_getElem? (i := 1467) (by decide +kernel), List.mem_of_getElem? (i := 2071) (by decide +kernel), List.mem_of_getElem? (i := 2072) (by decide +kernel)⟩
theorem lw_p173 : lw_okq (⟨"BentPennyModel", "digit", "(I)I"⟩, 75) := ⟨⟨by decide +kernel, by decide +kernel⟩, List.mem_of_getElem? (i := 1467) (by decide +kernel), List.mem_of_getElem? (i := 2075) (by decide +kernel), List.mem_of_getElem? (i := 2076) (by decide +kernel)⟩
theorem lw_p174 : lw_okq (⟨"BentPennyModel", "goesOn", "()I"⟩, 75) := ⟨⟨by decide +kernel, by decide +kernel⟩, List.mem_of_getElem? (i := 1467) (by decide +kernel), List.mem_of_getElem? (i := 2088) (by decide +kernel), List.mem_of_getElem? (i := 2089) (by decide +kernel)⟩
theorem lw_p175 : lw_okq (⟨"BentPennyModel", "layNear", "(I)V"⟩, 75) := ⟨⟨by decide +kernel, by decide +kernel⟩, List.mem_of_getElem? (i := 1467) (by decide +kernel), List.mem_of_getElem? (i := 2097) (by decide +kernel), List.mem_of_getElem? (i := 2098) (by decide +kernel)⟩
def lw_privs_11 : List (MethodName × Nat) := [(⟨"BentPennyModel", "readSo", "()Z"⟩, 75), (⟨"BentPennyModel", "judgeLine", "(I)V"⟩, 75), (⟨"BentPennyModel", "readThrow", "()Z"⟩, 75), (⟨"BentPennyModel", "whyNot", "(II)I"⟩, 75), (⟨"BentPennyModel", "takeRow", "(II)I"⟩, 75), (⟨"BentPennyModel", "pairsOf", "(II)V"⟩, 75), (⟨"BentPennyModel", "bit", "(Z)V"⟩, 75), (⟨"BentPennyModel", "tellBits", "()I"⟩, 75), (⟨"BentPennyModel", "spare", "(II)V"⟩, 75), (⟨"BentPennyModel", "hasShares", "()Z"⟩, 75), (⟨"BentPennyModel", "shareBelow", "()I"⟩, 75), (⟨"BentPennyModel", "shareOf", "(I)I"⟩, 75), (⟨"BentPennyModel", "all", "()I"⟩, 75), (⟨"BentPennyModel", "digit", "(I)I"⟩, 75), (⟨"BentPennyModel", "goesOn", "()I"⟩, 75), (⟨"BentPennyModel", "layNear", "(I)V"⟩, 75)]
theorem lw_r11 : ∀ q ∈ lw_privs_11, lw_okq q := List.forall_mem_cons.mpr ⟨lw_p160, List.forall_mem_cons.mpr ⟨lw_p161, List.forall_mem_cons.mpr ⟨lw_p162, List.forall_mem_cons.mpr ⟨lw_p163, List.forall_mem_cons.mpr ⟨lw_p164, List.forall_mem_cons.mpr ⟨lw_p165, List.forall_mem_cons.mpr ⟨lw_p166, List.forall_mem_cons.mpr ⟨lw_p167, List.forall_mem_cons.mpr ⟨lw_p168, List.forall_mem_cons.mpr ⟨lw_p169, List.forall_mem_cons.mpr ⟨lw_p170, List.forall_mem_cons.mpr ⟨lw_p171, List.forall_mem_cons.mpr ⟨lw_p172, List.forall_mem_cons.mpr ⟨lw_p173, List.forall_mem_cons.mpr ⟨lw_p174, List.forall_mem_cons.mpr ⟨lw_p175, fun _ h => absurd h List.not_mem_nil⟩⟩⟩⟩⟩⟩⟩⟩⟩⟩⟩⟩⟩⟩⟩⟩
theorem lw_p176 : lw_okq (⟨"BentPennyModel", "layCoins", "()V"⟩, 75) := ⟨⟨by decide +kernel, by decide +kernel⟩, List.mem_of_getElem? (i := 1467) (by decide +kernel), List.mem_of_getElem? (i := 2134) (by decide +kernel), List.mem_of_getElem? (i := 2135) (by decide +kernel)⟩
theorem lw_p177 : lw_okq (⟨"BentPennyModel", "isCoin", "(I)Z"⟩, 75) := ⟨⟨by decide +kernel, by decide +kernel⟩, List.mem_of_getElem? (i := 1467) (by decide +kernel), List.mem_of_getElem? (i := 2138) (by decide +kernel), List.mem_of_getElem? (i := 2139) (by decide +kernel)⟩
theorem lw_p178 : lw_okq (⟨"BentPennyModel", "addSide", "(IJJ)V"⟩, 75) := ⟨⟨by decide +kernel, by decide +kernel⟩, List.mem_of_getElem? (i := 1467) (by decide +kernel), List.mem_of_getElem? (i := 2142) (by decide +kernel), List.mem_of_getElem? (i := 2143) (by decide +kernel)⟩
theorem lw_p179 : lw_okq (⟨"BentPennyModel", "laySide", "(I)I"⟩, 75) := ⟨⟨by decide +kernel, by decide +kernel⟩, List.mem_of_getElem? (i := 1467) (by decide +kernel), List.mem_of_getElem? (i := 2154) (by decide +kernel), List.mem_of_getElem? (i := 2155) (by decide +kernel)⟩
theorem lw_p180 : lw_okq (⟨"BentPennyModel", "putNode", "(I)V"⟩, 75) := ⟨⟨by decide +kernel, by decide +kernel⟩, List.mem_of_getElem? (i := 1467) (by decide +kernel), List.mem_of_getElem? (i := 2162) (by decide +kernel), List.mem_of_getElem? (i := 2163) (by decide +kernel)⟩
theorem lw_p181 : lw_okq (⟨"BentPennyModel", "putName", "(J)V"⟩, 75) := ⟨⟨by decide +kernel, by decide +kernel⟩, List.mem_of_getElem? (i := 1467) (by decide +kernel), List.mem_of_getElem? (i := 2166) (by decide +kernel), List.mem_of_getElem? (i := 2167) (by decide +kernel)⟩
theorem lw_p182 : lw_okq (⟨"BentPennyModel", "put", "(I)V"⟩, 75) := ⟨⟨by decide +kernel, by decide +kernel⟩, List.mem_of_getElem? (i := 1467) (by decide +kernel), List.mem_of_getElem? (i := 2170) (by decide +kernel), List.mem_of_getElem? (i := 2171) (by decide +kernel)⟩
theorem lw_p183 : lw_okq (⟨"BentPennyModel", "castBy", "(II)I"⟩, 75) := ⟨⟨by decide +kernel, by decide +kernel⟩, List.mem_of_getElem? (i := 1467) (by decide +kernel), List.mem_of_getElem? (i := 2182) (by decide +kernel), List.mem_of_getElem? (i := 2183) (by decide +kernel)⟩
theorem lw_p184 : lw_okq (⟨"BentPennyModel", "draw", "(I)I"⟩, 75) := ⟨⟨by decide +kernel, by decide +kernel⟩, List.mem_of_getElem? (i := 1467) (by decide +kernel), List.mem_of_getElem? (i := 2186) (by decide +kernel), List.mem_of_getElem? (i := 2187) (by decide +kernel)⟩
theorem lw_p185 : lw_okq (⟨"BentPennyModel", "readOr", "()Z"⟩, 75) := ⟨⟨by decide +kernel, by decide +kernel⟩, List.mem_of_getElem? (i := 1467) (by decide +kernel), List.mem_of_getElem? (i := 2203) (by decide +kernel), List.mem_of_getElem? (i := 2204) (by decide +kernel)⟩
theorem lw_p186 : lw_okq (⟨"BentPennyModel", "readAnd", "()Z"⟩, 75) := ⟨⟨by decide +kernel, by decide +kernel⟩, List.mem_of_getElem? (i := 1467) (by decide +kernel), List.mem_of_getElem? (i := 2207) (by decide +kernel), List.mem_of_getElem? (i := 2208) (by decide +kernel)⟩
theorem lw_p187 : lw_okq (⟨"BentPennyModel", "readOne", "()Z"⟩, 75) := ⟨⟨by decide +kernel, by decide +kernel⟩, List.mem_of_getElem? (i := 1467) (by decide +kernel), List.mem_of_getElem? (i := 2211) (by decide +kernel), List.mem_of_getElem? (i := 2212) (by decide +kernel)⟩
theorem lw_p188 : lw_okq (⟨"BentPennyModel", "readBracket", "()Z"⟩, 75) := ⟨⟨by decide +kernel, by decide +kernel⟩, List.mem_of_getElem? (i := 1467) (by decide +kernel), List.mem_of_getElem? (i := 2215) (by decide +kernel), List.mem_of_getElem? (i := 2216) (by decide +kernel)⟩
theorem lw_p189 : lw_okq (⟨"BentPennyModel", "readNot", "()Z"⟩, 75) := ⟨⟨by decide +kernel, by decide +kernel⟩, List.mem_of_getElem? (i := 1467) (by decide +kernel), List.mem_of_getElem? (i := 2219) (by decide +kernel), List.mem_of_getElem? (i := 2220) (by decide +kernel)⟩
theorem lw_p190 : lw_okq (⟨"BentPennyModel", "saysOne", "(IIII)I"⟩, 75) := ⟨⟨by decide +kernel, by decide +kernel⟩, List.mem_of_getElem? (i := 1467) (by decide +kernel), List.mem_of_getElem? (i := 2223) (by decide +kernel), List.mem_of_getElem? (i := 2224) (by decide +kernel)⟩
theorem lw_p191 : lw_okq (⟨"BentPennyModel", "readNamed", "(I)Z"⟩, 75) := ⟨⟨by decide +kernel, by decide +kernel⟩, List.mem_of_getElem? (i := 1467) (by decide +kernel), List.mem_of_getElem? (i := 2227) (by decide +kernel), List.mem_of_getElem? (i := 2228) (by decide +kernel)⟩
def lw_privs_12 : List (MethodName × Nat) := [(⟨"BentPennyModel", "layCoins", "()V"⟩, 75), (⟨"BentPennyModel", "isCoin", "(I)Z"⟩, 75), (⟨"BentPennyModel", "addSide", "(IJJ)V"⟩, 75), (⟨"BentPennyModel", "laySide", "(I)I"⟩, 75), (⟨"BentPennyModel", "putNode", "(I)V"⟩, 75), (⟨"BentPennyModel", "putName", "(J)V"⟩, 75), (⟨"BentPennyModel", "put", "(I)V"⟩, 75), (⟨"BentPennyModel", "castBy", "(II)I"⟩, 75), (⟨"BentPennyModel", "draw", "(I)I"⟩, 75), (⟨"BentPennyModel", "readOr", "()Z"⟩, 75), (⟨"BentPennyModel", "readAnd", "()Z"⟩, 75), (⟨"BentPennyModel", "readOne", "()Z"⟩, 75), (⟨"BentPennyModel", "readBracket", "()Z"⟩, 75), (⟨"BentPennyModel", "readNot", "()Z"⟩, 75), (⟨"BentPennyModel", "saysOne", "(IIII)I"⟩, 75), (⟨"BentPennyModel", "readNamed", "(I)Z"⟩, 75)]
theorem lw_r12 : ∀ q ∈ lw_privs_12, lw_okq q := List.forall_mem_cons.mpr ⟨lw_p176, List.forall_mem_cons.mpr ⟨lw_p177, List.forall_mem_cons.mpr ⟨lw_p178, List.forall_mem_cons.mpr ⟨lw_p179, List.forall_mem_cons.mpr ⟨lw_p180, List.forall_mem_cons.mpr ⟨lw_p181, List.forall_mem_cons.mpr ⟨lw_p182, List.forall_mem_cons.mpr ⟨lw_p183, List.forall_mem_cons.mpr ⟨lw_p184, List.forall_mem_cons.mpr ⟨lw_p185, List.forall_mem_cons.mpr ⟨lw_p186, List.forall_mem_cons.mpr ⟨lw_p187, List.forall_mem_cons.mpr ⟨lw_p188, List.forall_mem_cons.mpr ⟨lw_p189, List.forall_mem_cons.mpr ⟨lw_p190, List.forall_mem_cons.mpr ⟨lw_p191, fun _ h => absurd h List.not_mem_nil⟩⟩⟩⟩⟩⟩⟩⟩⟩⟩⟩⟩⟩⟩⟩⟩
theorem lw_p192 : lw_okq (⟨"BentPennyModel", "readCompare", "(I)Z"⟩, 75) := ⟨⟨by decide +kernel, by decide +kernel⟩, List.mem_of_getElem? (i := 1467) (by decide +kernel), List.mem_of_getElem? (i := 2231) (by decide +kernel), List.mem_of_getElem? (i := 2232) (by decide +kernel)⟩
theorem lw_p193 : lw_okq (⟨"BentPennyModel", "holds", "(II)Z"⟩, 75) := ⟨⟨by decide +kernel, by decide +kernel⟩, List.mem_of_getElem? (i := 1467) (by decide +kernel), List.mem_of_getElem? (i := 2239) (by decide +kernel), List.mem_of_getElem? (i := 2240) (by decide +kernel)⟩
theorem lw_p194 : lw_okq (⟨"BentPennyModel", "knots", "(I)I"⟩, 75) := ⟨⟨by decide +kernel, by decide +kernel⟩, List.mem_of_getElem? (i := 1467) (by decide +kernel), List.mem_of_getElem? (i := 2243) (by decide +kernel), List.mem_of_getElem? (i := 2244) (by decide +kernel)⟩
def lw_privs_13 : List (MethodName × Nat) := [(⟨"BentPennyModel", "readCompare", "(I)Z"⟩, 75), (⟨"BentPennyModel", "holds", "(II)Z"⟩, 75), (⟨"BentPennyModel", "knots", "(I)I"⟩, 75)]
theorem lw_r13 : ∀ q ∈ lw_privs_13, lw_okq q := List.forall_mem_cons.mpr ⟨lw_p192, List.forall_mem_cons.mpr ⟨lw_p193, List.forall_mem_cons.mpr ⟨lw_p194, fun _ h => absurd h List.not_mem_nil⟩⟩⟩
def lw_privs : List (MethodName × Nat) := lw_privs_1 ++ (lw_privs_2 ++ (lw_privs_3 ++ (lw_privs_4 ++ (lw_privs_5 ++ (lw_privs_6 ++ (lw_privs_7 ++ (lw_privs_8 ++ (lw_privs_9 ++ (lw_privs_10 ++ (lw_privs_11 ++ (lw_privs_12 ++ (lw_privs_13))))))))))))
def lw_tbl : List Cond := k2_sels lw_privs ++ tables_1
theorem lw_privs_ok : ∀ q ∈ lw_privs, lw_okq q := by
  show ∀ q ∈ lw_privs_1 ++ (lw_privs_2 ++ (lw_privs_3 ++ (lw_privs_4 ++ (lw_privs_5 ++ (lw_privs_6 ++ (lw_privs_7 ++ (lw_privs_8 ++ (lw_privs_9 ++ (lw_privs_10 ++ (lw_privs_11 ++ (lw_privs_12 ++ (lw_privs_13)))))))))))), lw_okq q
  exact List.forall_mem_append.mpr ⟨lw_r1, List.forall_mem_append.mpr ⟨lw_r2, List.forall_mem_append.mpr ⟨lw_r3, List.forall_mem_append.mpr ⟨lw_r4, List.forall_mem_append.mpr ⟨lw_r5, List.forall_mem_append.mpr ⟨lw_r6, List.forall_mem_append.mpr ⟨lw_r7, List.forall_mem_append.mpr ⟨lw_r8, List.forall_mem_append.mpr ⟨lw_r9, List.forall_mem_append.mpr ⟨lw_r10, List.forall_mem_append.mpr ⟨lw_r11, List.forall_mem_append.mpr ⟨lw_r12, lw_r13⟩⟩⟩⟩⟩⟩⟩⟩⟩⟩⟩⟩
def RX0 : String := "BentPenny$Best"
def TX0 : u_T := fun k => match k with
  | 0 => ("BentPenny$Best", "mean", "LBentPenny$Fraction;", true)
  | 1 => ("BentPenny$Best", "tableNumber", "I", false)
  | 2 => ("BentPenny$Best", "coin", "I", false)
  | 3 => ("BentPenny$Best", "onHead", "I", false)
  | 4 => ("BentPenny$Best", "onTail", "I", false)
  | 5 => ("BentPenny$Best", "first", "[J", true)
  | 6 => ("BentPenny$Best", "second", "[J", true)
  | 7 => ("BentPenny$Best", "whole", "[J", true)
  | 8 => ("BentPenny$Best", "found", "Z", false)
  | 9 => ("BentPenny$Best", "leastAbove", "J", false)
  | 10 => ("BentPenny$Best", "leastBelow", "J", false)
  | 11 => ("BentPenny$Best", "foundCoin", "I", false)
  | 12 => ("BentPenny$Best", "foundHead", "I", false)
  | _ => ("BentPenny$Best", "foundTail", "I", false)
def tyX0 : Nat → FieldType := fun k => match k with
  | 0 => .object "BentPenny$Fraction"
  | 1 => .int
  | 2 => .int
  | 3 => .int
  | 4 => .int
  | 5 => .array .long
  | 6 => .array .long
  | 7 => .array .long
  | 8 => .boolean
  | 9 => .long
  | 10 => .long
  | 11 => .int
  | 12 => .int
  | _ => .int
abbrev wsX00 : List Cond := u_ws RX0 TX0 14
theorem nmX0 : ∀ a, a < 14 → ∀ b, b < 14 → a ≠ b → (TX0 a).2.1 ≠ (TX0 b).2.1 := by decide +kernel
theorem tyX0_ok : ∀ k, k < 14 → parseFieldDescriptor (TX0 k).2.2.1 = some (tyX0 k) := by decide +kernel
abbrev cX0_init : ByteArray := prog_2_method_1_code
def yX0_init : MethodName := ⟨RX0, "<init>", "()V"⟩
abbrev cX0_search : ByteArray := prog_2_method_2_code
def yX0_search : MethodName := ⟨RX0, "search", "(LBentPenny$Table;)I"⟩
abbrev cX0_searchCoin : ByteArray := prog_2_method_3_code
def yX0_searchCoin : MethodName := ⟨RX0, "searchCoin", "(III)V"⟩
abbrev cX0_weigh : ByteArray := prog_2_method_4_code
def yX0_weigh : MethodName := ⟨RX0, "weigh", "(IIIII)V"⟩
abbrev cX0_thrownAfter : ByteArray := prog_2_method_5_code
def yX0_thrownAfter : MethodName := ⟨RX0, "thrownAfter", "(I)I"⟩
abbrev cX0_secondCoin : ByteArray := prog_2_method_6_code
def yX0_secondCoin : MethodName := ⟨RX0, "secondCoin", "(I)I"⟩
abbrev cX0_leafOn : ByteArray := prog_2_method_7_code
def yX0_leafOn : MethodName := ⟨RX0, "leafOn", "(II)I"⟩
abbrev cX0_wholeOf : ByteArray := prog_2_method_8_code
def yX0_wholeOf : MethodName := ⟨RX0, "wholeOf", "(LBentPenny$Table;I)I"⟩
abbrev cX0_partOf : ByteArray := prog_2_method_9_code
def yX0_partOf : MethodName := ⟨RX0, "partOf", "(LBentPenny$Table;II)I"⟩
abbrev cX0_build : ByteArray := prog_2_method_10_code
def yX0_build : MethodName := ⟨RX0, "build", "(LBentPenny$Way;)V"⟩
abbrev cX0_buildSide : ByteArray := prog_2_method_11_code
def yX0_buildSide : MethodName := ⟨RX0, "buildSide", "(LBentPenny$Way;III)V"⟩
abbrev cX0_buildLeaf : ByteArray := prog_2_method_12_code
def yX0_buildLeaf : MethodName := ⟨RX0, "buildLeaf", "(LBentPenny$Way;III)V"⟩
def RX1 : String := "BentPenny$Bits"
def TX1 : u_T := fun k => match k with
  | 0 => ("BentPenny$Bits", "bits", "[B", true)
  | 1 => ("BentPenny$Bits", "many", "I", false)
  | _ => ("BentPenny$Bits", "work", "[B", true)
def tyX1 : Nat → FieldType := fun k => match k with
  | 0 => .array .byte
  | 1 => .int
  | _ => .array .byte
abbrev wsX10 : List Cond := u_ws RX1 TX1 3
theorem nmX1 : ∀ a, a < 3 → ∀ b, b < 3 → a ≠ b → (TX1 a).2.1 ≠ (TX1 b).2.1 := by decide +kernel
theorem tyX1_ok : ∀ k, k < 3 → parseFieldDescriptor (TX1 k).2.2.1 = some (tyX1 k) := by decide +kernel
abbrev cX1_init : ByteArray := prog_3_method_1_code
def yX1_init : MethodName := ⟨RX1, "<init>", "()V"⟩
abbrev cX1_at : ByteArray := prog_3_method_2_code
def yX1_at : MethodName := ⟨RX1, "at", "(I)I"⟩
abbrev cX1_add : ByteArray := prog_3_method_3_code
def yX1_add : MethodName := ⟨RX1, "add", "(I)V"⟩
abbrev cX1_byPairs : ByteArray := prog_3_method_4_code
def yX1_byPairs : MethodName := ⟨RX1, "byPairs", "([BI)I"⟩
abbrev cX1_addPairs : ByteArray := prog_3_method_5_code
def yX1_addPairs : MethodName := ⟨RX1, "addPairs", "([BII)V"⟩
abbrev cX1_throwAt : ByteArray := prog_3_method_6_code
def yX1_throwAt : MethodName := ⟨RX1, "throwAt", "([BI)I"⟩
abbrev cX1_bySparing : ByteArray := prog_3_method_7_code
def yX1_bySparing : MethodName := ⟨RX1, "bySparing", "([BI)I"⟩
abbrev cX1_note : ByteArray := prog_3_method_8_code
def yX1_note : MethodName := ⟨RX1, "note", "(II)V"⟩
abbrev cX1_spare : ByteArray := prog_3_method_9_code
def yX1_spare : MethodName := ⟨RX1, "spare", "(III)V"⟩
abbrev cX1_byPasts : ByteArray := prog_3_method_10_code
def yX1_byPasts : MethodName := ⟨RX1, "byPasts", "([BI)I"⟩
abbrev cX1_addPairsBehind : ByteArray := prog_3_method_11_code
def yX1_addPairsBehind : MethodName := ⟨RX1, "addPairsBehind", "([BII)V"⟩
abbrev cX1_byCounting : ByteArray := prog_3_method_12_code
def yX1_byCounting : MethodName := ⟨RX1, "byCounting", "([BI)I"⟩
abbrev cX1_placeOf : ByteArray := prog_3_method_13_code
def yX1_placeOf : MethodName := ⟨RX1, "placeOf", "([BII)J"⟩
abbrev cX1_addLowest : ByteArray := prog_3_method_14_code
def yX1_addLowest : MethodName := ⟨RX1, "addLowest", "(JI)V"⟩
abbrev cX1_countedSum : ByteArray := prog_3_method_15_code
def yX1_countedSum : MethodName := ⟨RX1, "countedSum", "(III)J"⟩
def RX2 : String := "BentPenny$Fraction"
def TX2 : u_T := fun k => match k with
  | 0 => ("BentPenny$Fraction", "told", "Z", false)
  | 1 => ("BentPenny$Fraction", "above", "J", false)
  | _ => ("BentPenny$Fraction", "below", "J", false)
def tyX2 : Nat → FieldType := fun k => match k with
  | 0 => .boolean
  | 1 => .long
  | _ => .long
abbrev wsX20 : List Cond := u_ws RX2 TX2 3
theorem nmX2 : ∀ a, a < 3 → ∀ b, b < 3 → a ≠ b → (TX2 a).2.1 ≠ (TX2 b).2.1 := by decide +kernel
theorem tyX2_ok : ∀ k, k < 3 → parseFieldDescriptor (TX2 k).2.2.1 = some (tyX2 k) := by decide +kernel
abbrev cX2_init : ByteArray := prog_4_method_1_code
def yX2_init : MethodName := ⟨RX2, "<init>", "()V"⟩
abbrev cX2_put : ByteArray := prog_4_method_2_code
def yX2_put : MethodName := ⟨RX2, "put", "(JJ)Z"⟩
abbrev cX2_part : ByteArray := prog_4_method_3_code
def yX2_part : MethodName := ⟨RX2, "part", "(I)J"⟩
abbrev cX2_common : ByteArray := prog_4_method_4_code
def yX2_common : MethodName := ⟨RX2, "common", "(JJ)J"⟩
abbrev cX2_power : ByteArray := prog_4_method_5_code
def yX2_power : MethodName := ⟨RX2, "power", "(JI)J"⟩
abbrev cX2_choices : ByteArray := prog_4_method_6_code
def yX2_choices : MethodName := ⟨RX2, "choices", "(II)J"⟩
def RX3 : String := "BentPenny$Judge"
def TX3 : u_T := fun k => match k with
  | 0 => ("BentPenny$Judge", "lines", "I", false)
  | 1 => ("BentPenny$Judge", "at", "I", false)
  | 2 => ("BentPenny$Judge", "wrongLine", "I", false)
  | 3 => ("BentPenny$Judge", "why", "I", false)
  | 4 => ("BentPenny$Judge", "tosses", "I", false)
  | 5 => ("BentPenny$Judge", "rounds", "I", false)
  | 6 => ("BentPenny$Judge", "told", "Z", false)
  | _ => ("BentPenny$Judge", "kept", "[I", true)
def tyX3 : Nat → FieldType := fun k => match k with
  | 0 => .int
  | 1 => .int
  | 2 => .int
  | 3 => .int
  | 4 => .int
  | 5 => .int
  | 6 => .boolean
  | _ => .array .int
abbrev wsX30 : List Cond := u_ws RX3 TX3 8
theorem nmX3 : ∀ a, a < 8 → ∀ b, b < 8 → a ≠ b → (TX3 a).2.1 ≠ (TX3 b).2.1 := by decide +kernel
theorem tyX3_ok : ∀ k, k < 8 → parseFieldDescriptor (TX3 k).2.2.1 = some (tyX3 k) := by decide +kernel
abbrev cX3_init : ByteArray := prog_5_method_1_code
def yX3_init : MethodName := ⟨RX3, "<init>", "()V"⟩
abbrev cX3_read : ByteArray := prog_5_method_2_code
def yX3_read : MethodName := ⟨RX3, "read", "(LBentPenny$Tokens;LBentPenny$Table;LBentPenny$Way;)Z"⟩
abbrev cX3_readThrow : ByteArray := prog_5_method_3_code
def yX3_readThrow : MethodName := ⟨RX3, "readThrow", "(LBentPenny$Tokens;LBentPenny$Table;LBentPenny$Way;)Z"⟩
abbrev cX3_readSo : ByteArray := prog_5_method_4_code
def yX3_readSo : MethodName := ⟨RX3, "readSo", "(LBentPenny$Tokens;LBentPenny$Table;LBentPenny$Way;)Z"⟩
abbrev cX3_judgeThrow : ByteArray := prog_5_method_5_code
def yX3_judgeThrow : MethodName := ⟨RX3, "judgeThrow", "(IILBentPenny$Table;LBentPenny$Way;)V"⟩
abbrev cX3_judgeSo : ByteArray := prog_5_method_6_code
def yX3_judgeSo : MethodName := ⟨RX3, "judgeSo", "(ILBentPenny$Way;)V"⟩
abbrev cX3_blame : ByteArray := prog_5_method_7_code
def yX3_blame : MethodName := ⟨RX3, "blame", "(I)V"⟩
abbrev cX3_keep : ByteArray := prog_5_method_8_code
def yX3_keep : MethodName := ⟨RX3, "keep", "(LBentPenny$Way;)V"⟩
abbrev cX3_keptAt : ByteArray := prog_5_method_9_code
def yX3_keptAt : MethodName := ⟨RX3, "keptAt", "(I)I"⟩
def RX4 : String := "BentPenny$Odds"
def TX4 : u_T := fun k => match k with
  | 0 => ("BentPenny$Odds", "weight", "[J", true)
  | 1 => ("BentPenny$Odds", "heads", "[I", true)
  | 2 => ("BentPenny$Odds", "tails", "[I", true)
  | 3 => ("BentPenny$Odds", "ends", "[J", true)
  | 4 => ("BentPenny$Odds", "powers", "[J", true)
  | 5 => ("BentPenny$Odds", "rests", "[J", true)
  | 6 => ("BentPenny$Odds", "restsBefore", "[J", true)
  | 7 => ("BentPenny$Odds", "all", "J", false)
  | 8 => ("BentPenny$Odds", "again", "J", false)
  | 9 => ("BentPenny$Odds", "tosses", "J", false)
  | 10 => ("BentPenny$Odds", "openHead", "I", false)
  | 11 => ("BentPenny$Odds", "openTail", "I", false)
  | _ => ("BentPenny$Odds", "openAll", "I", false)
def tyX4 : Nat → FieldType := fun k => match k with
  | 0 => .array .long
  | 1 => .array .int
  | 2 => .array .int
  | 3 => .array .long
  | 4 => .array .long
  | 5 => .array .long
  | 6 => .array .long
  | 7 => .long
  | 8 => .long
  | 9 => .long
  | 10 => .int
  | 11 => .int
  | _ => .int
abbrev wsX40 : List Cond := u_ws RX4 TX4 13
theorem nmX4 : ∀ a, a < 13 → ∀ b, b < 13 → a ≠ b → (TX4 a).2.1 ≠ (TX4 b).2.1 := by decide +kernel
theorem tyX4_ok : ∀ k, k < 13 → parseFieldDescriptor (TX4 k).2.2.1 = some (tyX4 k) := by decide +kernel
abbrev cX4_init : ByteArray := prog_6_method_1_code
def yX4_init : MethodName := ⟨RX4, "<init>", "()V"⟩
abbrev cX4_spread : ByteArray := prog_6_method_2_code
def yX4_spread : MethodName := ⟨RX4, "spread", "(LBentPenny$Table;LBentPenny$Way;III)V"⟩
abbrev cX4_wholeOf : ByteArray := prog_6_method_3_code
def yX4_wholeOf : MethodName := ⟨RX4, "wholeOf", "(LBentPenny$Table;I)I"⟩
abbrev cX4_partOf : ByteArray := prog_6_method_4_code
def yX4_partOf : MethodName := ⟨RX4, "partOf", "(LBentPenny$Table;II)I"⟩
abbrev cX4_weigh : ByteArray := prog_6_method_5_code
def yX4_weigh : MethodName := ⟨RX4, "weigh", "(LBentPenny$Table;LBentPenny$Way;I)V"⟩
abbrev cX4_tally : ByteArray := prog_6_method_6_code
def yX4_tally : MethodName := ⟨RX4, "tally", "(LBentPenny$Way;I)V"⟩
abbrev cX4_endWeight : ByteArray := prog_6_method_7_code
def yX4_endWeight : MethodName := ⟨RX4, "endWeight", "(I)J"⟩
abbrev cX4_tellPolynomials : ByteArray := prog_6_method_8_code
def yX4_tellPolynomials : MethodName := ⟨RX4, "tellPolynomials", "(LBentPenny$Table;LBentPenny$Way;)V"⟩
abbrev cX4_addPowers : ByteArray := prog_6_method_9_code
def yX4_addPowers : MethodName := ⟨RX4, "addPowers", "(II)V"⟩
abbrev cX4_powerOf : ByteArray := prog_6_method_10_code
def yX4_powerOf : MethodName := ⟨RX4, "powerOf", "(II)J"⟩
abbrev cX4_areLike : ByteArray := prog_6_method_11_code
def yX4_areLike : MethodName := ⟨RX4, "areLike", "(II)Z"⟩
abbrev cX4_comes : ByteArray := prog_6_method_12_code
def yX4_comes : MethodName := ⟨RX4, "comes", "(I)Z"⟩
abbrev cX4_mix : ByteArray := prog_6_method_13_code
def yX4_mix : MethodName := ⟨RX4, "mix", "(LBentPenny$Table;II)V"⟩
abbrev cX4_mixIn : ByteArray := prog_6_method_14_code
def yX4_mixIn : MethodName := ⟨RX4, "mixIn", "(LBentPenny$Table;II)V"⟩
abbrev cX4_restWeight : ByteArray := prog_6_method_15_code
def yX4_restWeight : MethodName := ⟨RX4, "restWeight", "(I)J"⟩
def RX5 : String := "BentPenny$Sentence"
def TX5 : u_T := fun k => match k with
  | 0 => ("BentPenny$Sentence", "ones", "I", false)
  | 1 => ("BentPenny$Sentence", "steps", "I", false)
  | 2 => ("BentPenny$Sentence", "kind", "[I", true)
  | 3 => ("BentPenny$Sentence", "sign", "[I", true)
  | _ => ("BentPenny$Sentence", "number", "[I", true)
def tyX5 : Nat → FieldType := fun k => match k with
  | 0 => .int
  | 1 => .int
  | 2 => .array .int
  | 3 => .array .int
  | _ => .array .int
abbrev wsX50 : List Cond := u_ws RX5 TX5 5
theorem nmX5 : ∀ a, a < 5 → ∀ b, b < 5 → a ≠ b → (TX5 a).2.1 ≠ (TX5 b).2.1 := by decide +kernel
theorem tyX5_ok : ∀ k, k < 5 → parseFieldDescriptor (TX5 k).2.2.1 = some (tyX5 k) := by decide +kernel
abbrev cX5_init : ByteArray := prog_7_method_1_code
def yX5_init : MethodName := ⟨RX5, "<init>", "()V"⟩
abbrev cX5_clear : ByteArray := prog_7_method_2_code
def yX5_clear : MethodName := ⟨RX5, "clear", "()V"⟩
abbrev cX5_copyFrom : ByteArray := prog_7_method_3_code
def yX5_copyFrom : MethodName := ⟨RX5, "copyFrom", "(LBentPenny$Sentence;)V"⟩
abbrev cX5_isTold : ByteArray := prog_7_method_4_code
def yX5_isTold : MethodName := ⟨RX5, "isTold", "()Z"⟩
abbrev cX5_add : ByteArray := prog_7_method_5_code
def yX5_add : MethodName := ⟨RX5, "add", "(III)Z"⟩
abbrev cX5_read : ByteArray := prog_7_method_6_code
def yX5_read : MethodName := ⟨RX5, "read", "(LBentPenny$Tokens;LBentPenny$Table;)Z"⟩
abbrev cX5_readCondition : ByteArray := prog_7_method_7_code
def yX5_readCondition : MethodName := ⟨RX5, "readCondition", "(LBentPenny$Tokens;LBentPenny$Table;I)Z"⟩
abbrev cX5_readAll : ByteArray := prog_7_method_8_code
def yX5_readAll : MethodName := ⟨RX5, "readAll", "(LBentPenny$Tokens;LBentPenny$Table;I)Z"⟩
abbrev cX5_readOne : ByteArray := prog_7_method_9_code
def yX5_readOne : MethodName := ⟨RX5, "readOne", "(LBentPenny$Tokens;LBentPenny$Table;I)Z"⟩
abbrev cX5_readSized : ByteArray := prog_7_method_10_code
def yX5_readSized : MethodName := ⟨RX5, "readSized", "(LBentPenny$Tokens;)Z"⟩
abbrev cX5_readLike : ByteArray := prog_7_method_11_code
def yX5_readLike : MethodName := ⟨RX5, "readLike", "(LBentPenny$Tokens;LBentPenny$Table;)Z"⟩
abbrev cX5_holdsFor : ByteArray := prog_7_method_12_code
def yX5_holdsFor : MethodName := ⟨RX5, "holdsFor", "(ILBentPenny$Table;LBentPenny$Way;LBentPenny$Odds;)Z"⟩
abbrev cX5_isFact : ByteArray := prog_7_method_13_code
def yX5_isFact : MethodName := ⟨RX5, "isFact", "(IILBentPenny$Table;LBentPenny$Way;LBentPenny$Odds;)Z"⟩
abbrev cX5_isSized : ByteArray := prog_7_method_14_code
def yX5_isSized : MethodName := ⟨RX5, "isSized", "(III)Z"⟩
def RX6 : String := "BentPenny$Shares"
def TX6 : u_T := fun k => match k with
  | 0 => ("BentPenny$Shares", "rest", "[I", true)
  | _ => ("BentPenny$Shares", "latestTook", "I", false)
def tyX6 : Nat → FieldType := fun k => match k with
  | 0 => .array .int
  | _ => .int
abbrev wsX60 : List Cond := u_ws RX6 TX6 2
theorem nmX6 : ∀ a, a < 2 → ∀ b, b < 2 → a ≠ b → (TX6 a).2.1 ≠ (TX6 b).2.1 := by decide +kernel
theorem tyX6_ok : ∀ k, k < 2 → parseFieldDescriptor (TX6 k).2.2.1 = some (tyX6 k) := by decide +kernel
abbrev cX6_init : ByteArray := prog_8_method_1_code
def yX6_init : MethodName := ⟨RX6, "<init>", "()V"⟩
abbrev cX6_areTold : ByteArray := prog_8_method_2_code
def yX6_areTold : MethodName := ⟨RX6, "areTold", "(LBentPenny$Table;)Z"⟩
abbrev cX6_shareOut : ByteArray := prog_8_method_3_code
def yX6_shareOut : MethodName := ⟨RX6, "shareOut", "(LBentPenny$Table;[BI)I"⟩
abbrev cX6_tellFewest : ByteArray := prog_8_method_4_code
def yX6_tellFewest : MethodName := ⟨RX6, "tellFewest", "(LBentPenny$Table;LBentPenny$Fraction;)V"⟩
abbrev cX6_periodOfTwo : ByteArray := prog_8_method_5_code
def yX6_periodOfTwo : MethodName := ⟨RX6, "periodOfTwo", "(I)I"⟩
abbrev cX6_openRows : ByteArray := prog_8_method_6_code
def yX6_openRows : MethodName := ⟨RX6, "openRows", "(LBentPenny$Table;I)J"⟩
abbrev cX6_restOf : ByteArray := prog_8_method_7_code
def yX6_restOf : MethodName := ⟨RX6, "restOf", "(LBentPenny$Table;II)J"⟩
abbrev cX6_nearestRows : ByteArray := prog_8_method_8_code
def yX6_nearestRows : MethodName := ⟨RX6, "nearestRows", "(LBentPenny$Table;II)I"⟩
abbrev cX6_tellOff : ByteArray := prog_8_method_9_code
def yX6_tellOff : MethodName := ⟨RX6, "tellOff", "(LBentPenny$Table;ILBentPenny$Fraction;)V"⟩
def RX7 : String := "BentPenny$State"
def TX7 : u_T := fun k => match k with
  | 0 => ("BentPenny$State", "table", "LBentPenny$Table;", true)
  | 1 => ("BentPenny$State", "way", "LBentPenny$Way;", true)
  | 2 => ("BentPenny$State", "sentence", "LBentPenny$Sentence;", true)
  | _ => ("BentPenny$State", "kept", "Z", false)
def tyX7 : Nat → FieldType := fun k => match k with
  | 0 => .object "BentPenny$Table"
  | 1 => .object "BentPenny$Way"
  | 2 => .object "BentPenny$Sentence"
  | _ => .boolean
abbrev wsX70 : List Cond := u_ws RX7 TX7 4
theorem nmX7 : ∀ a, a < 4 → ∀ b, b < 4 → a ≠ b → (TX7 a).2.1 ≠ (TX7 b).2.1 := by decide +kernel
theorem tyX7_ok : ∀ k, k < 4 → parseFieldDescriptor (TX7 k).2.2.1 = some (tyX7 k) := by decide +kernel
abbrev cX7_init : ByteArray := prog_9_method_1_code
def yX7_init : MethodName := ⟨RX7, "<init>", "()V"⟩
abbrev cX7_copyFrom : ByteArray := prog_9_method_2_code
def yX7_copyFrom : MethodName := ⟨RX7, "copyFrom", "(LBentPenny$State;)V"⟩
def RX8 : String := "BentPenny$Table"
def TX8 : u_T := fun k => match k with
  | 0 => ("BentPenny$Table", "number", "I", false)
  | 1 => ("BentPenny$Table", "things", "I", false)
  | 2 => ("BentPenny$Table", "ends", "I", false)
  | 3 => ("BentPenny$Table", "open", "I", false)
  | 4 => ("BentPenny$Table", "thingName", "[I", true)
  | 5 => ("BentPenny$Table", "coin", "[Z", true)
  | 6 => ("BentPenny$Table", "sides", "[I", true)
  | 7 => ("BentPenny$Table", "all", "[I", true)
  | 8 => ("BentPenny$Table", "parts", "[I", true)
  | 9 => ("BentPenny$Table", "endName", "[I", true)
  | 10 => ("BentPenny$Table", "above", "[I", true)
  | _ => ("BentPenny$Table", "below", "[I", true)
def tyX8 : Nat → FieldType := fun k => match k with
  | 0 => .int
  | 1 => .int
  | 2 => .int
  | 3 => .int
  | 4 => .array .int
  | 5 => .array .boolean
  | 6 => .array .int
  | 7 => .array .int
  | 8 => .array .int
  | 9 => .array .int
  | 10 => .array .int
  | _ => .array .int
abbrev wsX80 : List Cond := u_ws RX8 TX8 12
theorem nmX8 : ∀ a, a < 12 → ∀ b, b < 12 → a ≠ b → (TX8 a).2.1 ≠ (TX8 b).2.1 := by decide +kernel
theorem tyX8_ok : ∀ k, k < 12 → parseFieldDescriptor (TX8 k).2.2.1 = some (tyX8 k) := by decide +kernel
abbrev cX8_init : ByteArray := prog_10_method_1_code
def yX8_init : MethodName := ⟨RX8, "<init>", "()V"⟩
abbrev cX8_copyFrom : ByteArray := prog_10_method_2_code
def yX8_copyFrom : MethodName := ⟨RX8, "copyFrom", "(LBentPenny$Table;)V"⟩
abbrev cX8_hasThing : ByteArray := prog_10_method_3_code
def yX8_hasThing : MethodName := ⟨RX8, "hasThing", "(I)Z"⟩
abbrev cX8_hasEnd : ByteArray := prog_10_method_4_code
def yX8_hasEnd : MethodName := ⟨RX8, "hasEnd", "(I)Z"⟩
abbrev cX8_hasShare : ByteArray := prog_10_method_5_code
def yX8_hasShare : MethodName := ⟨RX8, "hasShare", "(I)Z"⟩
abbrev cX8_shareAbove : ByteArray := prog_10_method_6_code
def yX8_shareAbove : MethodName := ⟨RX8, "shareAbove", "(I)I"⟩
abbrev cX8_shareBelow : ByteArray := prog_10_method_7_code
def yX8_shareBelow : MethodName := ⟨RX8, "shareBelow", "(I)I"⟩
abbrev cX8_sidesOf : ByteArray := prog_10_method_8_code
def yX8_sidesOf : MethodName := ⟨RX8, "sidesOf", "(I)I"⟩
abbrev cX8_allParts : ByteArray := prog_10_method_9_code
def yX8_allParts : MethodName := ⟨RX8, "allParts", "(I)I"⟩
abbrev cX8_partsOf : ByteArray := prog_10_method_10_code
def yX8_partsOf : MethodName := ⟨RX8, "partsOf", "(II)I"⟩
abbrev cX8_isClosedCoin : ByteArray := prog_10_method_11_code
def yX8_isClosedCoin : MethodName := ⟨RX8, "isClosedCoin", "(I)Z"⟩
abbrev cX8_nameOfThing : ByteArray := prog_10_method_12_code
def yX8_nameOfThing : MethodName := ⟨RX8, "nameOfThing", "(I)I"⟩
abbrev cX8_nameOfEnd : ByteArray := prog_10_method_13_code
def yX8_nameOfEnd : MethodName := ⟨RX8, "nameOfEnd", "(I)I"⟩
abbrev cX8_thingNamed : ByteArray := prog_10_method_14_code
def yX8_thingNamed : MethodName := ⟨RX8, "thingNamed", "(I)I"⟩
abbrev cX8_endNamed : ByteArray := prog_10_method_15_code
def yX8_endNamed : MethodName := ⟨RX8, "endNamed", "(I)I"⟩
abbrev cX8_sideOfDraw : ByteArray := prog_10_method_16_code
def yX8_sideOfDraw : MethodName := ⟨RX8, "sideOfDraw", "(II)I"⟩
abbrev cX8_sidesAlike : ByteArray := prog_10_method_17_code
def yX8_sidesAlike : MethodName := ⟨RX8, "sidesAlike", "(I)I"⟩
abbrev cX8_read : ByteArray := prog_10_method_18_code
def yX8_read : MethodName := ⟨RX8, "read", "(LBentPenny$Tokens;)Z"⟩
abbrev cX8_readLine : ByteArray := prog_10_method_19_code
def yX8_readLine : MethodName := ⟨RX8, "readLine", "(LBentPenny$Tokens;)Z"⟩
abbrev cX8_readName : ByteArray := prog_10_method_20_code
def yX8_readName : MethodName := ⟨RX8, "readName", "(LBentPenny$Tokens;[II)Z"⟩
abbrev cX8_readCoin : ByteArray := prog_10_method_21_code
def yX8_readCoin : MethodName := ⟨RX8, "readCoin", "(LBentPenny$Tokens;)Z"⟩
abbrev cX8_addCoin : ByteArray := prog_10_method_22_code
def yX8_addCoin : MethodName := ⟨RX8, "addCoin", "(II)V"⟩
abbrev cX8_readWheel : ByteArray := prog_10_method_23_code
def yX8_readWheel : MethodName := ⟨RX8, "readWheel", "(LBentPenny$Tokens;)Z"⟩
abbrev cX8_readEnd : ByteArray := prog_10_method_24_code
def yX8_readEnd : MethodName := ⟨RX8, "readEnd", "(LBentPenny$Tokens;)Z"⟩
def RX9 : String := "BentPenny$Tokens"
def TX9 : u_T := fun k => match k with
  | 0 => ("BentPenny$Tokens", "text", "[B", true)
  | 1 => ("BentPenny$Tokens", "sorts", "[I", true)
  | 2 => ("BentPenny$Tokens", "values", "[I", true)
  | 3 => ("BentPenny$Tokens", "places", "[I", true)
  | 4 => ("BentPenny$Tokens", "many", "I", false)
  | 5 => ("BentPenny$Tokens", "at", "I", false)
  | 6 => ("BentPenny$Tokens", "sort", "I", false)
  | 7 => ("BentPenny$Tokens", "value", "I", false)
  | 8 => ("BentPenny$Tokens", "place", "I", false)
  | 9 => ("BentPenny$Tokens", "fault", "I", false)
  | _ => ("BentPenny$Tokens", "faultPlace", "I", false)
def tyX9 : Nat → FieldType := fun k => match k with
  | 0 => .array .byte
  | 1 => .array .int
  | 2 => .array .int
  | 3 => .array .int
  | 4 => .int
  | 5 => .int
  | 6 => .int
  | 7 => .int
  | 8 => .int
  | 9 => .int
  | _ => .int
abbrev wsX90 : List Cond := u_ws RX9 TX9 11
theorem nmX9 : ∀ a, a < 11 → ∀ b, b < 11 → a ≠ b → (TX9 a).2.1 ≠ (TX9 b).2.1 := by decide +kernel
theorem tyX9_ok : ∀ k, k < 11 → parseFieldDescriptor (TX9 k).2.2.1 = some (tyX9 k) := by decide +kernel
abbrev cX9_init : ByteArray := prog_11_method_1_code
def yX9_init : MethodName := ⟨RX9, "<init>", "([B)V"⟩
abbrev cX9_begin : ByteArray := prog_11_method_2_code
def yX9_begin : MethodName := ⟨RX9, "begin", "(II)V"⟩
abbrev cX9_add : ByteArray := prog_11_method_3_code
def yX9_add : MethodName := ⟨RX9, "add", "(III)V"⟩
abbrev cX9_readToken : ByteArray := prog_11_method_4_code
def yX9_readToken : MethodName := ⟨RX9, "readToken", "(II)I"⟩
abbrev cX9_readRun : ByteArray := prog_11_method_5_code
def yX9_readRun : MethodName := ⟨RX9, "readRun", "(II)I"⟩
abbrev cX9_isLetter : ByteArray := prog_11_method_6_code
def yX9_isLetter : MethodName := ⟨RX9, "isLetter", "(I)Z"⟩
abbrev cX9_isDigit : ByteArray := prog_11_method_7_code
def yX9_isDigit : MethodName := ⟨RX9, "isDigit", "(I)Z"⟩
abbrev cX9_isSign : ByteArray := prog_11_method_8_code
def yX9_isSign : MethodName := ⟨RX9, "isSign", "(I)Z"⟩
abbrev cX9_pack : ByteArray := prog_11_method_9_code
def yX9_pack : MethodName := ⟨RX9, "pack", "(II)I"⟩
abbrev cX9_isToldWord : ByteArray := prog_11_method_10_code
def yX9_isToldWord : MethodName := ⟨RX9, "isToldWord", "(I)Z"⟩
abbrev cX9_step : ByteArray := prog_11_method_11_code
def yX9_step : MethodName := ⟨RX9, "step", "()V"⟩
abbrev cX9_is : ByteArray := prog_11_method_12_code
def yX9_is : MethodName := ⟨RX9, "is", "(Ljava/lang/String;)Z"⟩
abbrev cX9_isName : ByteArray := prog_11_method_13_code
def yX9_isName : MethodName := ⟨RX9, "isName", "()Z"⟩
abbrev cX9_isNumber : ByteArray := prog_11_method_14_code
def yX9_isNumber : MethodName := ⟨RX9, "isNumber", "()Z"⟩
abbrev cX9_isSigned : ByteArray := prog_11_method_15_code
def yX9_isSigned : MethodName := ⟨RX9, "isSigned", "(C)Z"⟩
abbrev cX9_isOut : ByteArray := prog_11_method_16_code
def yX9_isOut : MethodName := ⟨RX9, "isOut", "()Z"⟩
abbrev cX9_fail : ByteArray := prog_11_method_17_code
def yX9_fail : MethodName := ⟨RX9, "fail", "(I)Z"⟩
abbrev cX9_pass : ByteArray := prog_11_method_18_code
def yX9_pass : MethodName := ⟨RX9, "pass", "(C)Z"⟩
abbrev cX9_holdsNumber : ByteArray := prog_11_method_19_code
def yX9_holdsNumber : MethodName := ⟨RX9, "holdsNumber", "(II)Z"⟩
abbrev cX9_isDone : ByteArray := prog_11_method_20_code
def yX9_isDone : MethodName := ⟨RX9, "isDone", "()Z"⟩
def RX10 : String := "BentPenny$Way"
def TX10 : u_T := fun k => match k with
  | 0 => ("BentPenny$Way", "nodes", "I", false)
  | 1 => ("BentPenny$Way", "deepest", "I", false)
  | 2 => ("BentPenny$Way", "sort", "[I", true)
  | 3 => ("BentPenny$Way", "which", "[I", true)
  | 4 => ("BentPenny$Way", "parent", "[I", true)
  | 5 => ("BentPenny$Way", "onSide", "[I", true)
  | _ => ("BentPenny$Way", "next", "[I", true)
def tyX10 : Nat → FieldType := fun k => match k with
  | 0 => .int
  | 1 => .int
  | 2 => .array .int
  | 3 => .array .int
  | 4 => .array .int
  | 5 => .array .int
  | _ => .array .int
abbrev wsX100 : List Cond := u_ws RX10 TX10 7
theorem nmX10 : ∀ a, a < 7 → ∀ b, b < 7 → a ≠ b → (TX10 a).2.1 ≠ (TX10 b).2.1 := by decide +kernel
theorem tyX10_ok : ∀ k, k < 7 → parseFieldDescriptor (TX10 k).2.2.1 = some (tyX10 k) := by decide +kernel
abbrev cX10_init : ByteArray := prog_12_method_1_code
def yX10_init : MethodName := ⟨RX10, "<init>", "()V"⟩
abbrev cX10_clear : ByteArray := prog_12_method_2_code
def yX10_clear : MethodName := ⟨RX10, "clear", "()V"⟩
abbrev cX10_copyFrom : ByteArray := prog_12_method_3_code
def yX10_copyFrom : MethodName := ⟨RX10, "copyFrom", "(LBentPenny$Way;)V"⟩
abbrev cX10_isTold : ByteArray := prog_12_method_4_code
def yX10_isTold : MethodName := ⟨RX10, "isTold", "()Z"⟩
abbrev cX10_hasNode : ByteArray := prog_12_method_5_code
def yX10_hasNode : MethodName := ⟨RX10, "hasNode", "(I)Z"⟩
abbrev cX10_sortAt : ByteArray := prog_12_method_6_code
def yX10_sortAt : MethodName := ⟨RX10, "sortAt", "(I)I"⟩
abbrev cX10_whichAt : ByteArray := prog_12_method_7_code
def yX10_whichAt : MethodName := ⟨RX10, "whichAt", "(I)I"⟩
abbrev cX10_parentOf : ByteArray := prog_12_method_8_code
def yX10_parentOf : MethodName := ⟨RX10, "parentOf", "(I)I"⟩
abbrev cX10_sideTo : ByteArray := prog_12_method_9_code
def yX10_sideTo : MethodName := ⟨RX10, "sideTo", "(I)I"⟩
abbrev cX10_nextAt : ByteArray := prog_12_method_10_code
def yX10_nextAt : MethodName := ⟨RX10, "nextAt", "(II)I"⟩
abbrev cX10_landing : ByteArray := prog_12_method_11_code
def yX10_landing : MethodName := ⟨RX10, "landing", "(II)I"⟩
abbrev cX10_endAt : ByteArray := prog_12_method_12_code
def yX10_endAt : MethodName := ⟨RX10, "endAt", "(I)I"⟩
abbrev cX10_hasThing : ByteArray := prog_12_method_13_code
def yX10_hasThing : MethodName := ⟨RX10, "hasThing", "(I)Z"⟩
abbrev cX10_knotsOf : ByteArray := prog_12_method_14_code
def yX10_knotsOf : MethodName := ⟨RX10, "knotsOf", "(I)I"⟩
abbrev cX10_add : ByteArray := prog_12_method_15_code
def yX10_add : MethodName := ⟨RX10, "add", "(IIII)I"⟩
abbrev cX10_tellInto : ByteArray := prog_12_method_16_code
def yX10_tellInto : MethodName := ⟨RX10, "tellInto", "([BLBentPenny$Table;)I"⟩
abbrev cX10_put : ByteArray := prog_12_method_17_code
def yX10_put : MethodName := ⟨RX10, "put", "([BII)I"⟩
abbrev cX10_putName : ByteArray := prog_12_method_18_code
def yX10_putName : MethodName := ⟨RX10, "putName", "([BII)I"⟩
abbrev cX10_putClosings : ByteArray := prog_12_method_19_code
def yX10_putClosings : MethodName := ⟨RX10, "putClosings", "([BILBentPenny$Table;I)I"⟩
abbrev cX10_read : ByteArray := prog_12_method_20_code
def yX10_read : MethodName := ⟨RX10, "read", "(LBentPenny$Tokens;LBentPenny$Table;)Z"⟩
abbrev cX10_readNode : ByteArray := prog_12_method_21_code
def yX10_readNode : MethodName := ⟨RX10, "readNode", "(LBentPenny$Tokens;LBentPenny$Table;III)Z"⟩
abbrev cX10_readSides : ByteArray := prog_12_method_22_code
def yX10_readSides : MethodName := ⟨RX10, "readSides", "(LBentPenny$Tokens;LBentPenny$Table;III)Z"⟩
def RX11 : String := "BentPenny"
def TX11 : u_T := fun k => match k with
  | 0 => ("BentPenny", "tape", "[B", true)
  | 1 => ("BentPenny", "tapeSize", "I", false)
  | 2 => ("BentPenny", "tokens", "LBentPenny$Tokens;", true)
  | 3 => ("BentPenny", "latestFault", "I", false)
  | 4 => ("BentPenny", "now", "LBentPenny$State;", true)
  | 5 => ("BentPenny", "draft", "LBentPenny$State;", true)
  | 6 => ("BentPenny", "images", "[LBentPenny$State;", true)
  | 7 => ("BentPenny", "tablesRead", "I", false)
  | 8 => ("BentPenny", "odds", "LBentPenny$Odds;", true)
  | 9 => ("BentPenny", "fraction", "LBentPenny$Fraction;", true)
  | 10 => ("BentPenny", "judge", "LBentPenny$Judge;", true)
  | 11 => ("BentPenny", "row", "[B", true)
  | 12 => ("BentPenny", "bits", "LBentPenny$Bits;", true)
  | 13 => ("BentPenny", "shares", "LBentPenny$Shares;", true)
  | 14 => ("BentPenny", "runsChance", "LBentPenny$Fraction;", true)
  | 15 => ("BentPenny", "best", "LBentPenny$Best;", true)
  | 16 => ("BentPenny", "written", "[B", true)
  | 17 => ("BentPenny", "writtenSize", "I", false)
  | _ => ("BentPenny", "castTosses", "I", false)
def tyX11 : Nat → FieldType := fun k => match k with
  | 0 => .array .byte
  | 1 => .int
  | 2 => .object "BentPenny$Tokens"
  | 3 => .int
  | 4 => .object "BentPenny$State"
  | 5 => .object "BentPenny$State"
  | 6 => .array (.object "BentPenny$State")
  | 7 => .int
  | 8 => .object "BentPenny$Odds"
  | 9 => .object "BentPenny$Fraction"
  | 10 => .object "BentPenny$Judge"
  | 11 => .array .byte
  | 12 => .object "BentPenny$Bits"
  | 13 => .object "BentPenny$Shares"
  | 14 => .object "BentPenny$Fraction"
  | 15 => .object "BentPenny$Best"
  | 16 => .array .byte
  | 17 => .int
  | _ => .int
abbrev wsX110 : List Cond := u_ws RX11 TX11 19
theorem nmX11 : ∀ a, a < 19 → ∀ b, b < 19 → a ≠ b → (TX11 a).2.1 ≠ (TX11 b).2.1 := by decide +kernel
theorem tyX11_ok : ∀ k, k < 19 → parseFieldDescriptor (TX11 k).2.2.1 = some (tyX11 k) := by decide +kernel
abbrev cX11_init : ByteArray := prog_1_method_1_code
def yX11_init : MethodName := ⟨RX11, "<init>", "()V"⟩
abbrev cX11_feed : ByteArray := prog_1_method_2_code
def yX11_feed : MethodName := ⟨RX11, "feed", "(IIIII)I"⟩
abbrev cX11_feedNumber : ByteArray := prog_1_method_3_code
def yX11_feedNumber : MethodName := ⟨RX11, "feedNumber", "(I)V"⟩
abbrev cX11_end : ByteArray := prog_1_method_4_code
def yX11_end : MethodName := ⟨RX11, "end", "(I)Z"⟩
abbrev cX11_takeTape : ByteArray := prog_1_method_5_code
def yX11_takeTape : MethodName := ⟨RX11, "takeTape", "()I"⟩
abbrev cX11_takeRow : ByteArray := prog_1_method_6_code
def yX11_takeRow : MethodName := ⟨RX11, "takeRow", "(II)I"⟩
abbrev cX11_table : ByteArray := prog_1_method_7_code
def yX11_table : MethodName := ⟨RX11, "table", "()I"⟩
abbrev cX11_fault : ByteArray := prog_1_method_8_code
def yX11_fault : MethodName := ⟨RX11, "fault", "()I"⟩
abbrev cX11_thing : ByteArray := prog_1_method_9_code
def yX11_thing : MethodName := ⟨RX11, "thing", "(II)I"⟩
abbrev cX11_side : ByteArray := prog_1_method_10_code
def yX11_side : MethodName := ⟨RX11, "side", "(II)I"⟩
abbrev cX11_share : ByteArray := prog_1_method_11_code
def yX11_share : MethodName := ⟨RX11, "share", "(II)I"⟩
abbrev cX11_way : ByteArray := prog_1_method_12_code
def yX11_way : MethodName := ⟨RX11, "way", "()I"⟩
abbrev cX11_node : ByteArray := prog_1_method_13_code
def yX11_node : MethodName := ⟨RX11, "node", "(I)I"⟩
abbrev cX11_nodeOf : ByteArray := prog_1_method_14_code
def yX11_nodeOf : MethodName := ⟨RX11, "nodeOf", "(I)I"⟩
abbrev cX11_next : ByteArray := prog_1_method_15_code
def yX11_next : MethodName := ⟨RX11, "next", "(II)I"⟩
abbrev cX11_deep : ByteArray := prog_1_method_16_code
def yX11_deep : MethodName := ⟨RX11, "deep", "()I"⟩
abbrev cX11_chance : ByteArray := prog_1_method_17_code
def yX11_chance : MethodName := ⟨RX11, "chance", "(II)J"⟩
abbrev cX11_chanceAt : ByteArray := prog_1_method_18_code
def yX11_chanceAt : MethodName := ⟨RX11, "chanceAt", "(IIII)J"⟩
abbrev cX11_mean : ByteArray := prog_1_method_19_code
def yX11_mean : MethodName := ⟨RX11, "mean", "(III)J"⟩
abbrev cX11_told : ByteArray := prog_1_method_20_code
def yX11_told : MethodName := ⟨RX11, "told", "(JJI)J"⟩
abbrev cX11_spreadBy : ByteArray := prog_1_method_21_code
def yX11_spreadBy : MethodName := ⟨RX11, "spreadBy", "(III)Z"⟩
abbrev cX11_poly : ByteArray := prog_1_method_22_code
def yX11_poly : MethodName := ⟨RX11, "poly", "(III)J"⟩
abbrev cX11_like : ByteArray := prog_1_method_23_code
def yX11_like : MethodName := ⟨RX11, "like", "(II)I"⟩
abbrev cX11_even : ByteArray := prog_1_method_24_code
def yX11_even : MethodName := ⟨RX11, "even", "()I"⟩
abbrev cX11_evening : ByteArray := prog_1_method_25_code
def yX11_evening : MethodName := ⟨RX11, "evening", "()I"⟩
abbrev cX11_judged : ByteArray := prog_1_method_26_code
def yX11_judged : MethodName := ⟨RX11, "judged", "(I)I"⟩
abbrev cX11_pairs : ByteArray := prog_1_method_27_code
def yX11_pairs : MethodName := ⟨RX11, "pairs", "()I"⟩
abbrev cX11_spared : ByteArray := prog_1_method_28_code
def yX11_spared : MethodName := ⟨RX11, "spared", "()I"⟩
abbrev cX11_pasts : ByteArray := prog_1_method_29_code
def yX11_pasts : MethodName := ⟨RX11, "pasts", "()I"⟩
abbrev cX11_counted : ByteArray := prog_1_method_30_code
def yX11_counted : MethodName := ⟨RX11, "counted", "()I"⟩
abbrev cX11_bit : ByteArray := prog_1_method_31_code
def yX11_bit : MethodName := ⟨RX11, "bit", "(I)I"⟩
abbrev cX11_countedMean : ByteArray := prog_1_method_32_code
def yX11_countedMean : MethodName := ⟨RX11, "countedMean", "(IIII)J"⟩
abbrev cX11_shared : ByteArray := prog_1_method_33_code
def yX11_shared : MethodName := ⟨RX11, "shared", "()I"⟩
abbrev cX11_took : ByteArray := prog_1_method_34_code
def yX11_took : MethodName := ⟨RX11, "took", "()I"⟩
abbrev cX11_fewest : ByteArray := prog_1_method_35_code
def yX11_fewest : MethodName := ⟨RX11, "fewest", "(I)J"⟩
abbrev cX11_nearest : ByteArray := prog_1_method_36_code
def yX11_nearest : MethodName := ⟨RX11, "nearest", "(II)I"⟩
abbrev cX11_off : ByteArray := prog_1_method_37_code
def yX11_off : MethodName := ⟨RX11, "off", "(II)J"⟩
abbrev cX11_mixed : ByteArray := prog_1_method_38_code
def yX11_mixed : MethodName := ⟨RX11, "mixed", "(III)J"⟩
abbrev cX11_luck : ByteArray := prog_1_method_39_code
def yX11_luck : MethodName := ⟨RX11, "luck", "(III)J"⟩
abbrev cX11_runs : ByteArray := prog_1_method_40_code
def yX11_runs : MethodName := ⟨RX11, "runs", "()I"⟩
abbrev cX11_rowsOfRuns : ByteArray := prog_1_method_41_code
def yX11_rowsOfRuns : MethodName := ⟨RX11, "rowsOfRuns", "(III)J"⟩
abbrev cX11_cuts : ByteArray := prog_1_method_42_code
def yX11_cuts : MethodName := ⟨RX11, "cuts", "(II)J"⟩
abbrev cX11_seldom : ByteArray := prog_1_method_43_code
def yX11_seldom : MethodName := ⟨RX11, "seldom", "(I)J"⟩
abbrev cX11_best : ByteArray := prog_1_method_44_code
def yX11_best : MethodName := ⟨RX11, "best", "()I"⟩
abbrev cX11_bestMean : ByteArray := prog_1_method_45_code
def yX11_bestMean : MethodName := ⟨RX11, "bestMean", "(I)J"⟩
abbrev cX11_take : ByteArray := prog_1_method_46_code
def yX11_take : MethodName := ⟨RX11, "take", "()Z"⟩
abbrev cX11_write : ByteArray := prog_1_method_47_code
def yX11_write : MethodName := ⟨RX11, "write", "()I"⟩
abbrev cX11_byteAt : ByteArray := prog_1_method_48_code
def yX11_byteAt : MethodName := ⟨RX11, "byteAt", "(I)I"⟩
abbrev cX11_cast : ByteArray := prog_1_method_49_code
def yX11_cast : MethodName := ⟨RX11, "cast", "(II)I"⟩
abbrev cX11_tosses : ByteArray := prog_1_method_50_code
def yX11_tosses : MethodName := ⟨RX11, "tosses", "()I"⟩
abbrev cX11_casts : ByteArray := prog_1_method_51_code
def yX11_casts : MethodName := ⟨RX11, "casts", "(III)I"⟩
abbrev cX11_canCast : ByteArray := prog_1_method_52_code
def yX11_canCast : MethodName := ⟨RX11, "canCast", "()Z"⟩
abbrev cX11_castOnce : ByteArray := prog_1_method_53_code
def yX11_castOnce : MethodName := ⟨RX11, "castOnce", "(II)I"⟩
abbrev cX11_sentence : ByteArray := prog_1_method_54_code
def yX11_sentence : MethodName := ⟨RX11, "sentence", "()I"⟩
abbrev cX11_said : ByteArray := prog_1_method_55_code
def yX11_said : MethodName := ⟨RX11, "said", "(I)I"⟩
abbrev cX11_image : ByteArray := prog_1_method_56_code
def yX11_image : MethodName := ⟨RX11, "image", "(I)Z"⟩
abbrev cX11_restore : ByteArray := prog_1_method_57_code
def yX11_restore : MethodName := ⟨RX11, "restore", "(I)Z"⟩
abbrev cX11_imageAt : ByteArray := prog_1_method_58_code
def yX11_imageAt : MethodName := ⟨RX11, "imageAt", "(I)LBentPenny$State;"⟩
abbrev cX11_count : ByteArray := prog_1_method_59_code
def yX11_count : MethodName := ⟨RX11, "count", "(I)I"⟩
abbrev cX11_isWithin : ByteArray := prog_1_method_60_code
def yX11_isWithin : MethodName := ⟨RX11, "isWithin", "(II)Z"⟩
def RX12 : String := "BentPennyModel"
def TX12 : u_T := fun k => match k with
  | 0 => ("BentPennyModel", "thrown", "I", false)
  | 1 => ("BentPennyModel", "tape", "[I", true)
  | 2 => ("BentPennyModel", "taped", "I", false)
  | 3 => ("BentPennyModel", "size", "I", false)
  | 4 => ("BentPennyModel", "limit", "I", false)
  | 5 => ("BentPennyModel", "to", "I", false)
  | 6 => ("BentPennyModel", "from", "I", false)
  | 7 => ("BentPennyModel", "kind", "I", false)
  | 8 => ("BentPennyModel", "number", "I", false)
  | 9 => ("BentPennyModel", "sign", "I", false)
  | 10 => ("BentPennyModel", "fault", "I", false)
  | 11 => ("BentPennyModel", "place", "I", false)
  | 12 => ("BentPennyModel", "word", "J", false)
  | 13 => ("BentPennyModel", "told", "I", false)
  | 14 => ("BentPennyModel", "now", "[I", true)
  | 15 => ("BentPennyModel", "read", "[I", true)
  | 16 => ("BentPennyModel", "way", "[I", true)
  | 17 => ("BentPennyModel", "kept", "[I", true)
  | 18 => ("BentPennyModel", "name", "[J", true)
  | 19 => ("BentPennyModel", "readName", "[J", true)
  | 20 => ("BentPennyModel", "keptName", "[J", true)
  | 21 => ("BentPennyModel", "isKept", "[Z", true)
  | 22 => ("BentPennyModel", "isBegun", "Z", false)
  | 23 => ("BentPennyModel", "tables", "I", false)
  | 24 => ("BentPennyModel", "above", "I", false)
  | 25 => ("BentPennyModel", "nodes", "I", false)
  | 26 => ("BentPennyModel", "laid", "I", false)
  | 27 => ("BentPennyModel", "weight", "[J", true)
  | 28 => ("BentPennyModel", "bend", "[I", true)
  | 29 => ("BentPennyModel", "below", "J", false)
  | 30 => ("BentPennyModel", "throwsMean", "J", false)
  | 31 => ("BentPennyModel", "power", "[J", true)
  | 32 => ("BentPennyModel", "powerBelow", "J", false)
  | 33 => ("BentPennyModel", "judged", "[I", true)
  | 34 => ("BentPennyModel", "at", "I", false)
  | 35 => ("BentPennyModel", "lineMany", "I", false)
  | 36 => ("BentPennyModel", "why", "I", false)
  | 37 => ("BentPennyModel", "wrongLine", "I", false)
  | 38 => ("BentPennyModel", "threw", "I", false)
  | 39 => ("BentPennyModel", "rounds", "I", false)
  | 40 => ("BentPennyModel", "isNew", "Z", false)
  | 41 => ("BentPennyModel", "pile", "[I", true)
  | 42 => ("BentPennyModel", "bits", "[I", true)
  | 43 => ("BentPennyModel", "bitMany", "I", false)
  | 44 => ("BentPennyModel", "made", "I", false)
  | 45 => ("BentPennyModel", "hasBits", "Z", false)
  | 46 => ("BentPennyModel", "told2", "[I", true)
  | 47 => ("BentPennyModel", "rest", "[I", true)
  | 48 => ("BentPennyModel", "tookMany", "I", false)
  | 49 => ("BentPennyModel", "near", "[J", true)
  | 50 => ("BentPennyModel", "mix", "[J", true)
  | 51 => ("BentPennyModel", "mixed", "[J", true)
  | 52 => ("BentPennyModel", "runMany", "I", false)
  | 53 => ("BentPennyModel", "runHeads", "I", false)
  | 54 => ("BentPennyModel", "runTails", "I", false)
  | 55 => ("BentPennyModel", "coins", "[I", true)
  | 56 => ("BentPennyModel", "best", "[I", true)
  | 57 => ("BentPennyModel", "coinMany", "I", false)
  | 58 => ("BentPennyModel", "bestNodes", "I", false)
  | 59 => ("BentPennyModel", "bestTable", "I", false)
  | 60 => ("BentPennyModel", "bestUp", "J", false)
  | 61 => ("BentPennyModel", "bestBelow", "J", false)
  | 62 => ("BentPennyModel", "one", "[J", true)
  | 63 => ("BentPennyModel", "bestCoin", "[I", true)
  | 64 => ("BentPennyModel", "text", "[I", true)
  | 65 => ("BentPennyModel", "letters", "[I", true)
  | 66 => ("BentPennyModel", "texted", "I", false)
  | 67 => ("BentPennyModel", "seed", "I", false)
  | 68 => ("BentPennyModel", "tossed", "I", false)
  | 69 => ("BentPennyModel", "tosses", "I", false)
  | 70 => ("BentPennyModel", "say", "[I", true)
  | 71 => ("BentPennyModel", "says", "I", false)
  | 72 => ("BentPennyModel", "onesMany", "I", false)
  | 73 => ("BentPennyModel", "within", "I", false)
  | _ => ("BentPennyModel", "top", "I", false)
def tyX12 : Nat → FieldType := fun k => match k with
  | 0 => .int
  | 1 => .array .int
  | 2 => .int
  | 3 => .int
  | 4 => .int
  | 5 => .int
  | 6 => .int
  | 7 => .int
  | 8 => .int
  | 9 => .int
  | 10 => .int
  | 11 => .int
  | 12 => .long
  | 13 => .int
  | 14 => .array .int
  | 15 => .array .int
  | 16 => .array .int
  | 17 => .array .int
  | 18 => .array .long
  | 19 => .array .long
  | 20 => .array .long
  | 21 => .array .boolean
  | 22 => .boolean
  | 23 => .int
  | 24 => .int
  | 25 => .int
  | 26 => .int
  | 27 => .array .long
  | 28 => .array .int
  | 29 => .long
  | 30 => .long
  | 31 => .array .long
  | 32 => .long
  | 33 => .array .int
  | 34 => .int
  | 35 => .int
  | 36 => .int
  | 37 => .int
  | 38 => .int
  | 39 => .int
  | 40 => .boolean
  | 41 => .array .int
  | 42 => .array .int
  | 43 => .int
  | 44 => .int
  | 45 => .boolean
  | 46 => .array .int
  | 47 => .array .int
  | 48 => .int
  | 49 => .array .long
  | 50 => .array .long
  | 51 => .array .long
  | 52 => .int
  | 53 => .int
  | 54 => .int
  | 55 => .array .int
  | 56 => .array .int
  | 57 => .int
  | 58 => .int
  | 59 => .int
  | 60 => .long
  | 61 => .long
  | 62 => .array .long
  | 63 => .array .int
  | 64 => .array .int
  | 65 => .array .int
  | 66 => .int
  | 67 => .int
  | 68 => .int
  | 69 => .int
  | 70 => .array .int
  | 71 => .int
  | 72 => .int
  | 73 => .int
  | _ => .int
abbrev wsX120 : List Cond := u_ws RX12 TX12 75
theorem nmX12 : ∀ a, a < 75 → ∀ b, b < 75 → a ≠ b → (TX12 a).2.1 ≠ (TX12 b).2.1 := by decide +kernel
theorem tyX12_ok : ∀ k, k < 75 → parseFieldDescriptor (TX12 k).2.2.1 = some (tyX12 k) := by decide +kernel
abbrev cX12_init : ByteArray := prog_14_method_1_code
def yX12_init : MethodName := ⟨RX12, "<init>", "()V"⟩
abbrev cX12_thrown : ByteArray := prog_14_method_2_code
def yX12_thrown : MethodName := ⟨RX12, "thrown", "()I"⟩
abbrev cX12_refuse : ByteArray := prog_14_method_3_code
def yX12_refuse : MethodName := ⟨RX12, "refuse", "()I"⟩
abbrev cX12_refuseLong : ByteArray := prog_14_method_4_code
def yX12_refuseLong : MethodName := ⟨RX12, "refuseLong", "()J"⟩
abbrev cX12_come : ByteArray := prog_14_method_5_code
def yX12_come : MethodName := ⟨RX12, "come", "(I)V"⟩
abbrev cX12_feed : ByteArray := prog_14_method_6_code
def yX12_feed : MethodName := ⟨RX12, "feed", "(IIIII)I"⟩
abbrev cX12_end : ByteArray := prog_14_method_7_code
def yX12_end : MethodName := ⟨RX12, "end", "(I)Z"⟩
abbrev cX12_gather : ByteArray := prog_14_method_8_code
def yX12_gather : MethodName := ⟨RX12, "gather", "()I"⟩
abbrev cX12_isIn : ByteArray := prog_14_method_9_code
def yX12_isIn : MethodName := ⟨RX12, "isIn", "(III)Z"⟩
abbrev cX12_has : ByteArray := prog_14_method_10_code
def yX12_has : MethodName := ⟨RX12, "has", "(II)Z"⟩
abbrev cX12_common : ByteArray := prog_14_method_11_code
def yX12_common : MethodName := ⟨RX12, "common", "(JJ)J"⟩
abbrev cX12_part : ByteArray := prog_14_method_12_code
def yX12_part : MethodName := ⟨RX12, "part", "(JJI)J"⟩
abbrev cX12_tapeAt : ByteArray := prog_14_method_13_code
def yX12_tapeAt : MethodName := ⟨RX12, "tapeAt", "(I)I"⟩
abbrev cX12_isDigit : ByteArray := prog_14_method_14_code
def yX12_isDigit : MethodName := ⟨RX12, "isDigit", "(I)Z"⟩
abbrev cX12_isLetter : ByteArray := prog_14_method_15_code
def yX12_isLetter : MethodName := ⟨RX12, "isLetter", "(I)Z"⟩
abbrev cX12_go : ByteArray := prog_14_method_16_code
def yX12_go : MethodName := ⟨RX12, "go", "()V"⟩
abbrev cX12_spelt : ByteArray := prog_14_method_17_code
def yX12_spelt : MethodName := ⟨RX12, "spelt", "(IIIIII)J"⟩
abbrev cX12_wordOf : ByteArray := prog_14_method_18_code
def yX12_wordOf : MethodName := ⟨RX12, "wordOf", "(I)J"⟩
abbrev cX12_isWord : ByteArray := prog_14_method_19_code
def yX12_isWord : MethodName := ⟨RX12, "isWord", "(I)Z"⟩
abbrev cX12_isSign : ByteArray := prog_14_method_20_code
def yX12_isSign : MethodName := ⟨RX12, "isSign", "(I)Z"⟩
abbrev cX12_isName : ByteArray := prog_14_method_21_code
def yX12_isName : MethodName := ⟨RX12, "isName", "()Z"⟩
abbrev cX12_bad : ByteArray := prog_14_method_22_code
def yX12_bad : MethodName := ⟨RX12, "bad", "(I)Z"⟩
abbrev cX12_readNumber : ByteArray := prog_14_method_23_code
def yX12_readNumber : MethodName := ⟨RX12, "readNumber", "(II)Z"⟩
abbrev cX12_readSign : ByteArray := prog_14_method_24_code
def yX12_readSign : MethodName := ⟨RX12, "readSign", "(I)Z"⟩
abbrev cX12_begin : ByteArray := prog_14_method_25_code
def yX12_begin : MethodName := ⟨RX12, "begin", "(I)V"⟩
abbrev cX12_lay : ByteArray := prog_14_method_26_code
def yX12_lay : MethodName := ⟨RX12, "lay", "()V"⟩
abbrev cX12_sidesOf : ByteArray := prog_14_method_27_code
def yX12_sidesOf : MethodName := ⟨RX12, "sidesOf", "([II)I"⟩
abbrev cX12_partsOf : ByteArray := prog_14_method_28_code
def yX12_partsOf : MethodName := ⟨RX12, "partsOf", "([II)I"⟩
abbrev cX12_sideOf : ByteArray := prog_14_method_29_code
def yX12_sideOf : MethodName := ⟨RX12, "sideOf", "([III)I"⟩
abbrev cX12_findIn : ByteArray := prog_14_method_30_code
def yX12_findIn : MethodName := ⟨RX12, "findIn", "([JIIJ)I"⟩
abbrev cX12_readNew : ByteArray := prog_14_method_31_code
def yX12_readNew : MethodName := ⟨RX12, "readNew", "(I)Z"⟩
abbrev cX12_readOf : ByteArray := prog_14_method_32_code
def yX12_readOf : MethodName := ⟨RX12, "readOf", "(II)Z"⟩
abbrev cX12_readCoin : ByteArray := prog_14_method_33_code
def yX12_readCoin : MethodName := ⟨RX12, "readCoin", "()Z"⟩
abbrev cX12_readWheel : ByteArray := prog_14_method_34_code
def yX12_readWheel : MethodName := ⟨RX12, "readWheel", "()Z"⟩
abbrev cX12_readEnd : ByteArray := prog_14_method_35_code
def yX12_readEnd : MethodName := ⟨RX12, "readEnd", "()Z"⟩
abbrev cX12_table : ByteArray := prog_14_method_36_code
def yX12_table : MethodName := ⟨RX12, "table", "()I"⟩
abbrev cX12_fault : ByteArray := prog_14_method_37_code
def yX12_fault : MethodName := ⟨RX12, "fault", "()I"⟩
abbrev cX12_things : ByteArray := prog_14_method_38_code
def yX12_things : MethodName := ⟨RX12, "things", "()I"⟩
abbrev cX12_ends : ByteArray := prog_14_method_39_code
def yX12_ends : MethodName := ⟨RX12, "ends", "()I"⟩
abbrev cX12_isThing : ByteArray := prog_14_method_40_code
def yX12_isThing : MethodName := ⟨RX12, "isThing", "(I)Z"⟩
abbrev cX12_isEnd : ByteArray := prog_14_method_41_code
def yX12_isEnd : MethodName := ⟨RX12, "isEnd", "(I)Z"⟩
abbrev cX12_thing : ByteArray := prog_14_method_42_code
def yX12_thing : MethodName := ⟨RX12, "thing", "(II)I"⟩
abbrev cX12_side : ByteArray := prog_14_method_43_code
def yX12_side : MethodName := ⟨RX12, "side", "(II)I"⟩
abbrev cX12_share : ByteArray := prog_14_method_44_code
def yX12_share : MethodName := ⟨RX12, "share", "(II)I"⟩
abbrev cX12_lays : ByteArray := prog_14_method_45_code
def yX12_lays : MethodName := ⟨RX12, "lays", "(II)I"⟩
abbrev cX12_readNode : ByteArray := prog_14_method_46_code
def yX12_readNode : MethodName := ⟨RX12, "readNode", "(I)Z"⟩
abbrev cX12_readSides : ByteArray := prog_14_method_47_code
def yX12_readSides : MethodName := ⟨RX12, "readSides", "(III)Z"⟩
abbrev cX12_way : ByteArray := prog_14_method_48_code
def yX12_way : MethodName := ⟨RX12, "way", "()I"⟩
abbrev cX12_isNode : ByteArray := prog_14_method_49_code
def yX12_isNode : MethodName := ⟨RX12, "isNode", "(I)Z"⟩
abbrev cX12_sortOf : ByteArray := prog_14_method_50_code
def yX12_sortOf : MethodName := ⟨RX12, "sortOf", "(I)I"⟩
abbrev cX12_whichOf : ByteArray := prog_14_method_51_code
def yX12_whichOf : MethodName := ⟨RX12, "whichOf", "(I)I"⟩
abbrev cX12_nextOf : ByteArray := prog_14_method_52_code
def yX12_nextOf : MethodName := ⟨RX12, "nextOf", "(II)I"⟩
abbrev cX12_node : ByteArray := prog_14_method_53_code
def yX12_node : MethodName := ⟨RX12, "node", "(I)I"⟩
abbrev cX12_nodeOf : ByteArray := prog_14_method_54_code
def yX12_nodeOf : MethodName := ⟨RX12, "nodeOf", "(I)I"⟩
abbrev cX12_next : ByteArray := prog_14_method_55_code
def yX12_next : MethodName := ⟨RX12, "next", "(II)I"⟩
abbrev cX12_hasWay : ByteArray := prog_14_method_56_code
def yX12_hasWay : MethodName := ⟨RX12, "hasWay", "()Z"⟩
abbrev cX12_deepOf : ByteArray := prog_14_method_57_code
def yX12_deepOf : MethodName := ⟨RX12, "deepOf", "(I)I"⟩
abbrev cX12_deep : ByteArray := prog_14_method_58_code
def yX12_deep : MethodName := ⟨RX12, "deep", "()I"⟩
abbrev cX12_partOf : ByteArray := prog_14_method_59_code
def yX12_partOf : MethodName := ⟨RX12, "partOf", "(II)I"⟩
abbrev cX12_allOf : ByteArray := prog_14_method_60_code
def yX12_allOf : MethodName := ⟨RX12, "allOf", "(I)I"⟩
abbrev cX12_weigh : ByteArray := prog_14_method_61_code
def yX12_weigh : MethodName := ⟨RX12, "weigh", "(IJI)V"⟩
abbrev cX12_isIn_ : ByteArray := prog_14_method_62_code
def yX12_isIn_ : MethodName := ⟨RX12, "isIn", "(II)Z"⟩
abbrev cX12_layWeights : ByteArray := prog_14_method_63_code
def yX12_layWeights : MethodName := ⟨RX12, "layWeights", "(II)Z"⟩
abbrev cX12_isOpenIn : ByteArray := prog_14_method_64_code
def yX12_isOpenIn : MethodName := ⟨RX12, "isOpenIn", "()Z"⟩
abbrev cX12_chance : ByteArray := prog_14_method_65_code
def yX12_chance : MethodName := ⟨RX12, "chance", "(II)J"⟩
abbrev cX12_isBend : ByteArray := prog_14_method_66_code
def yX12_isBend : MethodName := ⟨RX12, "isBend", "(II)Z"⟩
abbrev cX12_chanceAt : ByteArray := prog_14_method_67_code
def yX12_chanceAt : MethodName := ⟨RX12, "chanceAt", "(IIII)J"⟩
abbrev cX12_mean : ByteArray := prog_14_method_68_code
def yX12_mean : MethodName := ⟨RX12, "mean", "(III)J"⟩
abbrev cX12_choose : ByteArray := prog_14_method_69_code
def yX12_choose : MethodName := ⟨RX12, "choose", "(II)J"⟩
abbrev cX12_raise : ByteArray := prog_14_method_70_code
def yX12_raise : MethodName := ⟨RX12, "raise", "(IJII)V"⟩
abbrev cX12_layPowers : ByteArray := prog_14_method_71_code
def yX12_layPowers : MethodName := ⟨RX12, "layPowers", "()V"⟩
abbrev cX12_poly : ByteArray := prog_14_method_72_code
def yX12_poly : MethodName := ⟨RX12, "poly", "(III)J"⟩
abbrev cX12_areLike : ByteArray := prog_14_method_73_code
def yX12_areLike : MethodName := ⟨RX12, "areLike", "(II)Z"⟩
abbrev cX12_comes : ByteArray := prog_14_method_74_code
def yX12_comes : MethodName := ⟨RX12, "comes", "(I)Z"⟩
abbrev cX12_like : ByteArray := prog_14_method_75_code
def yX12_like : MethodName := ⟨RX12, "like", "(II)I"⟩
abbrev cX12_even : ByteArray := prog_14_method_76_code
def yX12_even : MethodName := ⟨RX12, "even", "()I"⟩
abbrev cX12_whyNot : ByteArray := prog_14_method_77_code
def yX12_whyNot : MethodName := ⟨RX12, "whyNot", "(II)I"⟩
abbrev cX12_readThrow : ByteArray := prog_14_method_78_code
def yX12_readThrow : MethodName := ⟨RX12, "readThrow", "()Z"⟩
abbrev cX12_judgeLine : ByteArray := prog_14_method_79_code
def yX12_judgeLine : MethodName := ⟨RX12, "judgeLine", "(I)V"⟩
abbrev cX12_readSo : ByteArray := prog_14_method_80_code
def yX12_readSo : MethodName := ⟨RX12, "readSo", "()Z"⟩
abbrev cX12_evening : ByteArray := prog_14_method_81_code
def yX12_evening : MethodName := ⟨RX12, "evening", "()I"⟩
abbrev cX12_judged : ByteArray := prog_14_method_82_code
def yX12_judged : MethodName := ⟨RX12, "judged", "(I)I"⟩
abbrev cX12_takeRow : ByteArray := prog_14_method_83_code
def yX12_takeRow : MethodName := ⟨RX12, "takeRow", "(II)I"⟩
abbrev cX12_tellBits : ByteArray := prog_14_method_84_code
def yX12_tellBits : MethodName := ⟨RX12, "tellBits", "()I"⟩
abbrev cX12_bit : ByteArray := prog_14_method_85_code
def yX12_bit : MethodName := ⟨RX12, "bit", "(Z)V"⟩
abbrev cX12_pairsOf : ByteArray := prog_14_method_86_code
def yX12_pairsOf : MethodName := ⟨RX12, "pairsOf", "(II)V"⟩
abbrev cX12_pairs : ByteArray := prog_14_method_87_code
def yX12_pairs : MethodName := ⟨RX12, "pairs", "()I"⟩
abbrev cX12_spare : ByteArray := prog_14_method_88_code
def yX12_spare : MethodName := ⟨RX12, "spare", "(II)V"⟩
abbrev cX12_spared : ByteArray := prog_14_method_89_code
def yX12_spared : MethodName := ⟨RX12, "spared", "()I"⟩
abbrev cX12_pasts : ByteArray := prog_14_method_90_code
def yX12_pasts : MethodName := ⟨RX12, "pasts", "()I"⟩
abbrev cX12_counted : ByteArray := prog_14_method_91_code
def yX12_counted : MethodName := ⟨RX12, "counted", "()I"⟩
abbrev cX12_bit_ : ByteArray := prog_14_method_92_code
def yX12_bit_ : MethodName := ⟨RX12, "bit", "(I)I"⟩
abbrev cX12_power : ByteArray := prog_14_method_93_code
def yX12_power : MethodName := ⟨RX12, "power", "(JI)J"⟩
abbrev cX12_countedMean : ByteArray := prog_14_method_94_code
def yX12_countedMean : MethodName := ⟨RX12, "countedMean", "(IIII)J"⟩
abbrev cX12_shareOf : ByteArray := prog_14_method_95_code
def yX12_shareOf : MethodName := ⟨RX12, "shareOf", "(I)I"⟩
abbrev cX12_shareBelow : ByteArray := prog_14_method_96_code
def yX12_shareBelow : MethodName := ⟨RX12, "shareBelow", "()I"⟩
abbrev cX12_hasShares : ByteArray := prog_14_method_97_code
def yX12_hasShares : MethodName := ⟨RX12, "hasShares", "()Z"⟩
abbrev cX12_all : ByteArray := prog_14_method_98_code
def yX12_all : MethodName := ⟨RX12, "all", "()I"⟩
abbrev cX12_digit : ByteArray := prog_14_method_99_code
def yX12_digit : MethodName := ⟨RX12, "digit", "(I)I"⟩
abbrev cX12_shared : ByteArray := prog_14_method_100_code
def yX12_shared : MethodName := ⟨RX12, "shared", "()I"⟩
abbrev cX12_took : ByteArray := prog_14_method_101_code
def yX12_took : MethodName := ⟨RX12, "took", "()I"⟩
abbrev cX12_goesOn : ByteArray := prog_14_method_102_code
def yX12_goesOn : MethodName := ⟨RX12, "goesOn", "()I"⟩
abbrev cX12_fewest : ByteArray := prog_14_method_103_code
def yX12_fewest : MethodName := ⟨RX12, "fewest", "(I)J"⟩
abbrev cX12_layNear : ByteArray := prog_14_method_104_code
def yX12_layNear : MethodName := ⟨RX12, "layNear", "(I)V"⟩
abbrev cX12_nearest : ByteArray := prog_14_method_105_code
def yX12_nearest : MethodName := ⟨RX12, "nearest", "(II)I"⟩
abbrev cX12_off : ByteArray := prog_14_method_106_code
def yX12_off : MethodName := ⟨RX12, "off", "(II)J"⟩
abbrev cX12_mixed : ByteArray := prog_14_method_107_code
def yX12_mixed : MethodName := ⟨RX12, "mixed", "(III)J"⟩
abbrev cX12_far : ByteArray := prog_14_method_108_code
def yX12_far : MethodName := ⟨RX12, "far", "(II)I"⟩
abbrev cX12_luck : ByteArray := prog_14_method_109_code
def yX12_luck : MethodName := ⟨RX12, "luck", "(III)J"⟩
abbrev cX12_runs : ByteArray := prog_14_method_110_code
def yX12_runs : MethodName := ⟨RX12, "runs", "()I"⟩
abbrev cX12_rowsOf : ByteArray := prog_14_method_111_code
def yX12_rowsOf : MethodName := ⟨RX12, "rowsOf", "(III)J"⟩
abbrev cX12_seldom : ByteArray := prog_14_method_112_code
def yX12_seldom : MethodName := ⟨RX12, "seldom", "(I)J"⟩
abbrev cX12_layCoins : ByteArray := prog_14_method_113_code
def yX12_layCoins : MethodName := ⟨RX12, "layCoins", "()V"⟩
abbrev cX12_isCoin : ByteArray := prog_14_method_114_code
def yX12_isCoin : MethodName := ⟨RX12, "isCoin", "(I)Z"⟩
abbrev cX12_addSide : ByteArray := prog_14_method_115_code
def yX12_addSide : MethodName := ⟨RX12, "addSide", "(IJJ)V"⟩
abbrev cX12_best : ByteArray := prog_14_method_116_code
def yX12_best : MethodName := ⟨RX12, "best", "()I"⟩
abbrev cX12_bestMean : ByteArray := prog_14_method_117_code
def yX12_bestMean : MethodName := ⟨RX12, "bestMean", "(I)J"⟩
abbrev cX12_laySide : ByteArray := prog_14_method_118_code
def yX12_laySide : MethodName := ⟨RX12, "laySide", "(I)I"⟩
abbrev cX12_take : ByteArray := prog_14_method_119_code
def yX12_take : MethodName := ⟨RX12, "take", "()Z"⟩
abbrev cX12_put : ByteArray := prog_14_method_120_code
def yX12_put : MethodName := ⟨RX12, "put", "(I)V"⟩
abbrev cX12_putName : ByteArray := prog_14_method_121_code
def yX12_putName : MethodName := ⟨RX12, "putName", "(J)V"⟩
abbrev cX12_putNode : ByteArray := prog_14_method_122_code
def yX12_putNode : MethodName := ⟨RX12, "putNode", "(I)V"⟩
abbrev cX12_write : ByteArray := prog_14_method_123_code
def yX12_write : MethodName := ⟨RX12, "write", "()I"⟩
abbrev cX12_byteAt : ByteArray := prog_14_method_124_code
def yX12_byteAt : MethodName := ⟨RX12, "byteAt", "(I)I"⟩
abbrev cX12_draw : ByteArray := prog_14_method_125_code
def yX12_draw : MethodName := ⟨RX12, "draw", "(I)I"⟩
abbrev cX12_castBy : ByteArray := prog_14_method_126_code
def yX12_castBy : MethodName := ⟨RX12, "castBy", "(II)I"⟩
abbrev cX12_cast : ByteArray := prog_14_method_127_code
def yX12_cast : MethodName := ⟨RX12, "cast", "(II)I"⟩
abbrev cX12_tosses : ByteArray := prog_14_method_128_code
def yX12_tosses : MethodName := ⟨RX12, "tosses", "()I"⟩
abbrev cX12_casts : ByteArray := prog_14_method_129_code
def yX12_casts : MethodName := ⟨RX12, "casts", "(III)I"⟩
abbrev cX12_saysOne : ByteArray := prog_14_method_130_code
def yX12_saysOne : MethodName := ⟨RX12, "saysOne", "(IIII)I"⟩
abbrev cX12_readOr : ByteArray := prog_14_method_131_code
def yX12_readOr : MethodName := ⟨RX12, "readOr", "()Z"⟩
abbrev cX12_readAnd : ByteArray := prog_14_method_132_code
def yX12_readAnd : MethodName := ⟨RX12, "readAnd", "()Z"⟩
abbrev cX12_readOne : ByteArray := prog_14_method_133_code
def yX12_readOne : MethodName := ⟨RX12, "readOne", "()Z"⟩
abbrev cX12_readNot : ByteArray := prog_14_method_134_code
def yX12_readNot : MethodName := ⟨RX12, "readNot", "()Z"⟩
abbrev cX12_readBracket : ByteArray := prog_14_method_135_code
def yX12_readBracket : MethodName := ⟨RX12, "readBracket", "()Z"⟩
abbrev cX12_readNamed : ByteArray := prog_14_method_136_code
def yX12_readNamed : MethodName := ⟨RX12, "readNamed", "(I)Z"⟩
abbrev cX12_readCompare : ByteArray := prog_14_method_137_code
def yX12_readCompare : MethodName := ⟨RX12, "readCompare", "(I)Z"⟩
abbrev cX12_sentence : ByteArray := prog_14_method_138_code
def yX12_sentence : MethodName := ⟨RX12, "sentence", "()I"⟩
abbrev cX12_knots : ByteArray := prog_14_method_139_code
def yX12_knots : MethodName := ⟨RX12, "knots", "(I)I"⟩
abbrev cX12_holds : ByteArray := prog_14_method_140_code
def yX12_holds : MethodName := ⟨RX12, "holds", "(II)Z"⟩
abbrev cX12_said : ByteArray := prog_14_method_141_code
def yX12_said : MethodName := ⟨RX12, "said", "(I)I"⟩
abbrev cX12_image : ByteArray := prog_14_method_142_code
def yX12_image : MethodName := ⟨RX12, "image", "(I)Z"⟩
abbrev cX12_restore : ByteArray := prog_14_method_143_code
def yX12_restore : MethodName := ⟨RX12, "restore", "(I)Z"⟩
abbrev cX12_count : ByteArray := prog_14_method_144_code
def yX12_count : MethodName := ⟨RX12, "count", "(I)I"⟩
def RL : String := "BentPennyLaw"
abbrev cL_thing : ByteArray := method_3_code
def yL_thing : MethodName := ⟨RL, "thing", "(LBentPenny;II[J)I"⟩
abbrev cL_chance : ByteArray := method_4_code
def yL_chance : MethodName := ⟨RL, "chance", "(LBentPenny;II[J)I"⟩
abbrev cL_chanceAt : ByteArray := method_5_code
def yL_chanceAt : MethodName := ⟨RL, "chanceAt", "(LBentPenny;IIII[J)I"⟩
abbrev cL_mean : ByteArray := method_6_code
def yL_mean : MethodName := ⟨RL, "mean", "(LBentPenny;III[J)I"⟩
abbrev cL_poly : ByteArray := method_7_code
def yL_poly : MethodName := ⟨RL, "poly", "(LBentPenny;III[J)I"⟩
abbrev cL_countedMean : ByteArray := method_8_code
def yL_countedMean : MethodName := ⟨RL, "countedMean", "(LBentPenny;IIII[J)I"⟩
abbrev cL_fewest : ByteArray := method_9_code
def yL_fewest : MethodName := ⟨RL, "fewest", "(LBentPenny;I[J)I"⟩
abbrev cL_off : ByteArray := method_10_code
def yL_off : MethodName := ⟨RL, "off", "(LBentPenny;II[J)I"⟩
abbrev cL_mixed : ByteArray := method_11_code
def yL_mixed : MethodName := ⟨RL, "mixed", "(LBentPenny;III[J)I"⟩
abbrev cL_luck : ByteArray := method_12_code
def yL_luck : MethodName := ⟨RL, "luck", "(LBentPenny;III[J)I"⟩
abbrev cL_seldom : ByteArray := method_13_code
def yL_seldom : MethodName := ⟨RL, "seldom", "(LBentPenny;I[J)I"⟩
abbrev cL_bestMean : ByteArray := method_14_code
def yL_bestMean : MethodName := ⟨RL, "bestMean", "(LBentPenny;I[J)I"⟩
abbrev cL_law : ByteArray := code
def yL_law : MethodName := ⟨RL, "law", "([I)Z"⟩
abbrev vwCl : List vw_C := [(RX0, TX0, 14), (RX1, TX1, 3), (RX2, TX2, 3), (RX3, TX3, 8), (RX4, TX4, 13), (RX5, TX5, 5), (RX6, TX6, 2), (RX7, TX7, 4), (RX8, TX8, 12), (RX9, TX9, 11), (RX10, TX10, 7), (RX11, TX11, 19), (RX12, TX12, 75)]
