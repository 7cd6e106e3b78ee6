section
-- ===== PART A: goes FIRST, ahead of the names: the tables' words, and 'selects' of the private methods out of them =====
/-- a private method of a class that the tables say can be made, by its rows of tables_1 -/
def lw_okq (q : MethodName × Nat) : Prop := (q.1.cls ≠ "java/lang/invoke/MethodHandle" ∧ q.1.cls ≠ "java/lang/invoke/VarHandle") ∧ Cond.instantiable q.1.cls q.2 ∈ tables_1 ∧ Cond.privateMethod q.1 ∈ tables_1 ∧ Cond.instanceMethod q.1 ∈ tables_1
theorem lw_p0 : lw_okq (⟨"CupsAndPea", "tell", "(I)I"⟩, 11) := ⟨⟨by decide +kernel, by decide +kernel⟩, List.mem_of_getElem? (i := 19) (by decide +kernel), List.mem_of_getElem? (i := 301) (by decide +kernel), List.mem_of_getElem? (i := 302) (by decide +kernel)⟩
theorem lw_p1 : lw_okq (⟨"CupsAndPea", "isPlaceOrHand", "(I)Z"⟩, 11) := ⟨⟨by decide +kernel, by decide +kernel⟩, List.mem_of_getElem? (i := 19) (by decide +kernel), List.mem_of_getElem? (i := 314) (by decide +kernel), List.mem_of_getElem? (i := 315) (by decide +kernel)⟩
theorem lw_p2 : lw_okq (⟨"CupsAndPea", "isPlace", "(I)Z"⟩, 11) := ⟨⟨by decide +kernel, by decide +kernel⟩, List.mem_of_getElem? (i := 19) (by decide +kernel), List.mem_of_getElem? (i := 318) (by decide +kernel), List.mem_of_getElem? (i := 319) (by decide +kernel)⟩
theorem lw_p3 : lw_okq (⟨"CupsAndPea", "isPass", "(I)Z"⟩, 11) := ⟨⟨by decide +kernel, by decide +kernel⟩, List.mem_of_getElem? (i := 19) (by decide +kernel), List.mem_of_getElem? (i := 342) (by decide +kernel), List.mem_of_getElem? (i := 343) (by decide +kernel)⟩
theorem lw_p4 : lw_okq (⟨"CupsAndPea", "isBehind", "(I)Z"⟩, 11) := ⟨⟨by decide +kernel, by decide +kernel⟩, List.mem_of_getElem? (i := 19) (by decide +kernel), List.mem_of_getElem? (i := 367) (by decide +kernel), List.mem_of_getElem? (i := 368) (by decide +kernel)⟩
theorem lw_p5 : lw_okq (⟨"CupsAndPea$Pass", "whirled", "(I)I"⟩, 3) := ⟨⟨by decide +kernel, by decide +kernel⟩, List.mem_of_getElem? (i := 38) (by decide +kernel), List.mem_of_getElem? (i := 383) (by decide +kernel), List.mem_of_getElem? (i := 384) (by decide +kernel)⟩
theorem lw_p6 : lw_okq (⟨"CupsAndPea", "likeliest", "(I)I"⟩, 11) := ⟨⟨by decide +kernel, by decide +kernel⟩, List.mem_of_getElem? (i := 19) (by decide +kernel), List.mem_of_getElem? (i := 443) (by decide +kernel), List.mem_of_getElem? (i := 444) (by decide +kernel)⟩
theorem lw_p7 : lw_okq (⟨"CupsAndPea", "rightOf", "(II)J"⟩, 11) := ⟨⟨by decide +kernel, by decide +kernel⟩, List.mem_of_getElem? (i := 19) (by decide +kernel), List.mem_of_getElem? (i := 455) (by decide +kernel), List.mem_of_getElem? (i := 456) (by decide +kernel)⟩
theorem lw_p8 : lw_okq (⟨"CupsAndPea", "rightIf", "(III)J"⟩, 11) := ⟨⟨by decide +kernel, by decide +kernel⟩, List.mem_of_getElem? (i := 19) (by decide +kernel), List.mem_of_getElem? (i := 486) (by decide +kernel), List.mem_of_getElem? (i := 487) (by decide +kernel)⟩
theorem lw_p9 : lw_okq (⟨"CupsAndPea$Orders", "goOn", "(LCupsAndPea$Table;II)V"⟩, 1) := ⟨⟨by decide +kernel, by decide +kernel⟩, List.mem_of_getElem? (i := 202) (by decide +kernel), List.mem_of_getElem? (i := 559) (by decide +kernel), List.mem_of_getElem? (i := 560) (by decide +kernel)⟩
theorem lw_p10 : lw_okq (⟨"CupsAndPea$Tape", "step", "()V"⟩, 6) := ⟨⟨by decide +kernel, by decide +kernel⟩, List.mem_of_getElem? (i := 212) (by decide +kernel), List.mem_of_getElem? (i := 702) (by decide +kernel), List.mem_of_getElem? (i := 703) (by decide +kernel)⟩
theorem lw_p11 : lw_okq (⟨"CupsAndPea$Tape", "sortAt", "(I)I"⟩, 6) := ⟨⟨by decide +kernel, by decide +kernel⟩, List.mem_of_getElem? (i := 212) (by decide +kernel), List.mem_of_getElem? (i := 706) (by decide +kernel), List.mem_of_getElem? (i := 707) (by decide +kernel)⟩
theorem lw_p12 : lw_okq (⟨"CupsAndPea$Tape", "readItem", "(LCupsAndPea$Table;)Z"⟩, 6) := ⟨⟨by decide +kernel, by decide +kernel⟩, List.mem_of_getElem? (i := 212) (by decide +kernel), List.mem_of_getElem? (i := 711) (by decide +kernel), List.mem_of_getElem? (i := 712) (by decide +kernel)⟩
theorem lw_p13 : lw_okq (⟨"CupsAndPea$Tape", "kindNamed", "()I"⟩, 6) := ⟨⟨by decide +kernel, by decide +kernel⟩, List.mem_of_getElem? (i := 212) (by decide +kernel), List.mem_of_getElem? (i := 715) (by decide +kernel), List.mem_of_getElem? (i := 716) (by decide +kernel)⟩
theorem lw_p14 : lw_okq (⟨"CupsAndPea$Tape", "isWord", "(Ljava/lang/String;)Z"⟩, 6) := ⟨⟨by decide +kernel, by decide +kernel⟩, List.mem_of_getElem? (i := 212) (by decide +kernel), List.mem_of_getElem? (i := 729) (by decide +kernel), List.mem_of_getElem? (i := 730) (by decide +kernel)⟩
theorem lw_p15 : lw_okq (⟨"CupsAndPea$Tape", "readPass", "(LCupsAndPea$Table;I)Z"⟩, 6) := ⟨⟨by decide +kernel, by decide +kernel⟩, List.mem_of_getElem? (i := 212) (by decide +kernel), List.mem_of_getElem? (i := 781) (by decide +kernel), List.mem_of_getElem? (i := 782) (by decide +kernel)⟩
def lw_privs_1 : List (MethodName × Nat) := [(⟨"CupsAndPea", "tell", "(I)I"⟩, 11), (⟨"CupsAndPea", "isPlaceOrHand", "(I)Z"⟩, 11), (⟨"CupsAndPea", "isPlace", "(I)Z"⟩, 11), (⟨"CupsAndPea", "isPass", "(I)Z"⟩, 11), (⟨"CupsAndPea", "isBehind", "(I)Z"⟩, 11), (⟨"CupsAndPea$Pass", "whirled", "(I)I"⟩, 3), (⟨"CupsAndPea", "likeliest", "(I)I"⟩, 11), (⟨"CupsAndPea", "rightOf", "(II)J"⟩, 11), (⟨"CupsAndPea", "rightIf", "(III)J"⟩, 11), (⟨"CupsAndPea$Orders", "goOn", "(LCupsAndPea$Table;II)V"⟩, 1), (⟨"CupsAndPea$Tape", "step", "()V"⟩, 6), (⟨"CupsAndPea$Tape", "sortAt", "(I)I"⟩, 6), (⟨"CupsAndPea$Tape", "readItem", "(LCupsAndPea$Table;)Z"⟩, 6), (⟨"CupsAndPea$Tape", "kindNamed", "()I"⟩, 6), (⟨"CupsAndPea$Tape", "isWord", "(Ljava/lang/String;)Z"⟩, 6), (⟨"CupsAndPea$Tape", "readPass", "(LCupsAndPea$Table;I)Z"⟩, 6)]
theorem lw_r1 : ∀ q ∈ lw_privs_1, lw_okq q := List.forall_mem_cons.mpr ⟨lw_p0, List.forall_mem_cons.mpr ⟨lw_p1, List.forall_mem_cons.mpr ⟨lw_p2, List.forall_mem_cons.mpr ⟨lw_p3, List.forall_mem_cons.mpr ⟨lw_p4, List.forall_mem_cons.mpr ⟨lw_p5, List.forall_mem_cons.mpr ⟨lw_p6, List.forall_mem_cons.mpr ⟨lw_p7, List.forall_mem_cons.mpr ⟨lw_p8, List.forall_mem_cons.mpr ⟨lw_p9, List.forall_mem_cons.mpr ⟨lw_p10, List.forall_mem_cons.mpr ⟨lw_p11, List.forall_mem_cons.mpr ⟨lw_p12, List.forall_mem_cons.mpr ⟨lw_p13, List.forall_mem_cons.mpr ⟨lw_p14, List.forall_mem_cons.mpr ⟨lw_p15, fun _ h => absurd h List.not_mem_nil⟩⟩⟩⟩⟩⟩⟩⟩⟩⟩⟩⟩⟩⟩⟩⟩
theorem lw_p16 : lw_okq (⟨"CupsAndPea$Tape", "takeNumber", "(II)I"⟩, 6) := ⟨⟨by decide +kernel, by decide +kernel⟩, List.mem_of_getElem? (i := 212) (by decide +kernel), List.mem_of_getElem? (i := 785) (by decide +kernel), List.mem_of_getElem? (i := 786) (by decide +kernel)⟩
theorem lw_p17 : lw_okq (⟨"CupsAndPea$Tape", "readPea", "(LCupsAndPea$Table;)Z"⟩, 6) := ⟨⟨by decide +kernel, by decide +kernel⟩, List.mem_of_getElem? (i := 212) (by decide +kernel), List.mem_of_getElem? (i := 792) (by decide +kernel), List.mem_of_getElem? (i := 793) (by decide +kernel)⟩
theorem lw_p18 : lw_okq (⟨"CupsAndPea$Tape", "readEye", "(LCupsAndPea$Table;)Z"⟩, 6) := ⟨⟨by decide +kernel, by decide +kernel⟩, List.mem_of_getElem? (i := 212) (by decide +kernel), List.mem_of_getElem? (i := 798) (by decide +kernel), List.mem_of_getElem? (i := 799) (by decide +kernel)⟩
theorem lw_p19 : lw_okq (⟨"CupsAndPea$Tape", "readPlayer", "(LCupsAndPea$Table;)Z"⟩, 6) := ⟨⟨by decide +kernel, by decide +kernel⟩, List.mem_of_getElem? (i := 212) (by decide +kernel), List.mem_of_getElem? (i := 804) (by decide +kernel), List.mem_of_getElem? (i := 805) (by decide +kernel)⟩
theorem lw_p20 : lw_okq (⟨"CupsAndPeaModel", "finds", "(I)I"⟩, 31) := ⟨⟨by decide +kernel, by decide +kernel⟩, List.mem_of_getElem? (i := 904) (by decide +kernel), List.mem_of_getElem? (i := 1013) (by decide +kernel), List.mem_of_getElem? (i := 1014) (by decide +kernel)⟩
theorem lw_p21 : lw_okq (⟨"CupsAndPeaModel", "isPlace", "(I)Z"⟩, 31) := ⟨⟨by decide +kernel, by decide +kernel⟩, List.mem_of_getElem? (i := 904) (by decide +kernel), List.mem_of_getElem? (i := 1027) (by decide +kernel), List.mem_of_getElem? (i := 1028) (by decide +kernel)⟩
theorem lw_p22 : lw_okq (⟨"CupsAndPeaModel", "comes", "(III)I"⟩, 31) := ⟨⟨by decide +kernel, by decide +kernel⟩, List.mem_of_getElem? (i := 904) (by decide +kernel), List.mem_of_getElem? (i := 1031) (by decide +kernel), List.mem_of_getElem? (i := 1032) (by decide +kernel)⟩
theorem lw_p23 : lw_okq (⟨"CupsAndPeaModel", "isPass", "(I)Z"⟩, 31) := ⟨⟨by decide +kernel, by decide +kernel⟩, List.mem_of_getElem? (i := 904) (by decide +kernel), List.mem_of_getElem? (i := 1039) (by decide +kernel), List.mem_of_getElem? (i := 1040) (by decide +kernel)⟩
theorem lw_p24 : lw_okq (⟨"CupsAndPeaModel", "its", "(II)I"⟩, 31) := ⟨⟨by decide +kernel, by decide +kernel⟩, List.mem_of_getElem? (i := 904) (by decide +kernel), List.mem_of_getElem? (i := 1043) (by decide +kernel), List.mem_of_getElem? (i := 1044) (by decide +kernel)⟩
theorem lw_p25 : lw_okq (⟨"CupsAndPeaModel", "seen", "(I)I"⟩, 31) := ⟨⟨by decide +kernel, by decide +kernel⟩, List.mem_of_getElem? (i := 904) (by decide +kernel), List.mem_of_getElem? (i := 1047) (by decide +kernel), List.mem_of_getElem? (i := 1048) (by decide +kernel)⟩
theorem lw_p26 : lw_okq (⟨"CupsAndPeaModel", "peaBehind", "(I)I"⟩, 31) := ⟨⟨by decide +kernel, by decide +kernel⟩, List.mem_of_getElem? (i := 904) (by decide +kernel), List.mem_of_getElem? (i := 1066) (by decide +kernel), List.mem_of_getElem? (i := 1067) (by decide +kernel)⟩
theorem lw_p27 : lw_okq (⟨"CupsAndPeaModel", "watches", "(III)V"⟩, 31) := ⟨⟨by decide +kernel, by decide +kernel⟩, List.mem_of_getElem? (i := 904) (by decide +kernel), List.mem_of_getElem? (i := 1099) (by decide +kernel), List.mem_of_getElem? (i := 1100) (by decide +kernel)⟩
theorem lw_p28 : lw_okq (⟨"CupsAndPeaModel", "beginsBy", "(I)V"⟩, 31) := ⟨⟨by decide +kernel, by decide +kernel⟩, List.mem_of_getElem? (i := 904) (by decide +kernel), List.mem_of_getElem? (i := 1103) (by decide +kernel), List.mem_of_getElem? (i := 1104) (by decide +kernel)⟩
theorem lw_p29 : lw_okq (⟨"CupsAndPeaModel", "slips", "(II)I"⟩, 31) := ⟨⟨by decide +kernel, by decide +kernel⟩, List.mem_of_getElem? (i := 904) (by decide +kernel), List.mem_of_getElem? (i := 1107) (by decide +kernel), List.mem_of_getElem? (i := 1108) (by decide +kernel)⟩
theorem lw_p30 : lw_okq (⟨"CupsAndPeaModel", "looksAt", "(III)V"⟩, 31) := ⟨⟨by decide +kernel, by decide +kernel⟩, List.mem_of_getElem? (i := 904) (by decide +kernel), List.mem_of_getElem? (i := 1111) (by decide +kernel), List.mem_of_getElem? (i := 1112) (by decide +kernel)⟩
theorem lw_p31 : lw_okq (⟨"CupsAndPeaModel", "guessBehind", "(II)I"⟩, 31) := ⟨⟨by decide +kernel, by decide +kernel⟩, List.mem_of_getElem? (i := 904) (by decide +kernel), List.mem_of_getElem? (i := 1119) (by decide +kernel), List.mem_of_getElem? (i := 1120) (by decide +kernel)⟩
def lw_privs_2 : List (MethodName × Nat) := [(⟨"CupsAndPea$Tape", "takeNumber", "(II)I"⟩, 6), (⟨"CupsAndPea$Tape", "readPea", "(LCupsAndPea$Table;)Z"⟩, 6), (⟨"CupsAndPea$Tape", "readEye", "(LCupsAndPea$Table;)Z"⟩, 6), (⟨"CupsAndPea$Tape", "readPlayer", "(LCupsAndPea$Table;)Z"⟩, 6), (⟨"CupsAndPeaModel", "finds", "(I)I"⟩, 31), (⟨"CupsAndPeaModel", "isPlace", "(I)Z"⟩, 31), (⟨"CupsAndPeaModel", "comes", "(III)I"⟩, 31), (⟨"CupsAndPeaModel", "isPass", "(I)Z"⟩, 31), (⟨"CupsAndPeaModel", "its", "(II)I"⟩, 31), (⟨"CupsAndPeaModel", "seen", "(I)I"⟩, 31), (⟨"CupsAndPeaModel", "peaBehind", "(I)I"⟩, 31), (⟨"CupsAndPeaModel", "watches", "(III)V"⟩, 31), (⟨"CupsAndPeaModel", "beginsBy", "(I)V"⟩, 31), (⟨"CupsAndPeaModel", "slips", "(II)I"⟩, 31), (⟨"CupsAndPeaModel", "looksAt", "(III)V"⟩, 31), (⟨"CupsAndPeaModel", "guessBehind", "(II)I"⟩, 31)]
theorem lw_r2 : ∀ q ∈ lw_privs_2, lw_okq q := List.forall_mem_cons.mpr ⟨lw_p16, List.forall_mem_cons.mpr ⟨lw_p17, List.forall_mem_cons.mpr ⟨lw_p18, List.forall_mem_cons.mpr ⟨lw_p19, List.forall_mem_cons.mpr ⟨lw_p20, List.forall_mem_cons.mpr ⟨lw_p21, List.forall_mem_cons.mpr ⟨lw_p22, List.forall_mem_cons.mpr ⟨lw_p23, List.forall_mem_cons.mpr ⟨lw_p24, List.forall_mem_cons.mpr ⟨lw_p25, List.forall_mem_cons.mpr ⟨lw_p26, List.forall_mem_cons.mpr ⟨lw_p27, List.forall_mem_cons.mpr ⟨lw_p28, List.forall_mem_cons.mpr ⟨lw_p29, List.forall_mem_cons.mpr ⟨lw_p30, List.forall_mem_cons.mpr ⟨lw_p31, fun _ h => absurd h List.not_mem_nil⟩⟩⟩⟩⟩⟩⟩⟩⟩⟩⟩⟩⟩⟩⟩⟩
theorem lw_p32 : lw_okq (⟨"CupsAndPeaModel", "heaviest", "()I"⟩, 31) := ⟨⟨by decide +kernel, by decide +kernel⟩, List.mem_of_getElem? (i := 904) (by decide +kernel), List.mem_of_getElem? (i := 1123) (by decide +kernel), List.mem_of_getElem? (i := 1124) (by decide +kernel)⟩
theorem lw_p33 : lw_okq (⟨"CupsAndPeaModel", "rightOf", "(II)J"⟩, 31) := ⟨⟨by decide +kernel, by decide +kernel⟩, List.mem_of_getElem? (i := 904) (by decide +kernel), List.mem_of_getElem? (i := 1131) (by decide +kernel), List.mem_of_getElem? (i := 1132) (by decide +kernel)⟩
theorem lw_p34 : lw_okq (⟨"CupsAndPeaModel", "rightNow", "(I)J"⟩, 31) := ⟨⟨by decide +kernel, by decide +kernel⟩, List.mem_of_getElem? (i := 904) (by decide +kernel), List.mem_of_getElem? (i := 1135) (by decide +kernel), List.mem_of_getElem? (i := 1136) (by decide +kernel)⟩
theorem lw_p35 : lw_okq (⟨"CupsAndPeaModel", "rightAs", "(III)J"⟩, 31) := ⟨⟨by decide +kernel, by decide +kernel⟩, List.mem_of_getElem? (i := 904) (by decide +kernel), List.mem_of_getElem? (i := 1159) (by decide +kernel), List.mem_of_getElem? (i := 1160) (by decide +kernel)⟩
theorem lw_p36 : lw_okq (⟨"CupsAndPeaModel", "whyMisled", "(III)I"⟩, 31) := ⟨⟨by decide +kernel, by decide +kernel⟩, List.mem_of_getElem? (i := 904) (by decide +kernel), List.mem_of_getElem? (i := 1171) (by decide +kernel), List.mem_of_getElem? (i := 1172) (by decide +kernel)⟩
theorem lw_p37 : lw_okq (⟨"CupsAndPeaModel", "findMisled", "(III)V"⟩, 31) := ⟨⟨by decide +kernel, by decide +kernel⟩, List.mem_of_getElem? (i := 904) (by decide +kernel), List.mem_of_getElem? (i := 1176) (by decide +kernel), List.mem_of_getElem? (i := 1177) (by decide +kernel)⟩
theorem lw_p38 : lw_okq (⟨"CupsAndPeaModel", "layPairs", "()V"⟩, 31) := ⟨⟨by decide +kernel, by decide +kernel⟩, List.mem_of_getElem? (i := 904) (by decide +kernel), List.mem_of_getElem? (i := 1180) (by decide +kernel), List.mem_of_getElem? (i := 1181) (by decide +kernel)⟩
theorem lw_p39 : lw_okq (⟨"CupsAndPeaModel", "pairOf", "(III)I"⟩, 31) := ⟨⟨by decide +kernel, by decide +kernel⟩, List.mem_of_getElem? (i := 904) (by decide +kernel), List.mem_of_getElem? (i := 1184) (by decide +kernel), List.mem_of_getElem? (i := 1185) (by decide +kernel)⟩
theorem lw_p40 : lw_okq (⟨"CupsAndPeaModel", "isWhere", "(I)Z"⟩, 31) := ⟨⟨by decide +kernel, by decide +kernel⟩, List.mem_of_getElem? (i := 904) (by decide +kernel), List.mem_of_getElem? (i := 1196) (by decide +kernel), List.mem_of_getElem? (i := 1197) (by decide +kernel)⟩
theorem lw_p41 : lw_okq (⟨"CupsAndPeaModel", "findFeints", "(I)V"⟩, 31) := ⟨⟨by decide +kernel, by decide +kernel⟩, List.mem_of_getElem? (i := 904) (by decide +kernel), List.mem_of_getElem? (i := 1200) (by decide +kernel), List.mem_of_getElem? (i := 1201) (by decide +kernel)⟩
theorem lw_p42 : lw_okq (⟨"CupsAndPeaModel", "whose", "(II)I"⟩, 31) := ⟨⟨by decide +kernel, by decide +kernel⟩, List.mem_of_getElem? (i := 904) (by decide +kernel), List.mem_of_getElem? (i := 1227) (by decide +kernel), List.mem_of_getElem? (i := 1228) (by decide +kernel)⟩
theorem lw_p43 : lw_okq (⟨"CupsAndPeaModel", "sets", "(III)V"⟩, 31) := ⟨⟨by decide +kernel, by decide +kernel⟩, List.mem_of_getElem? (i := 904) (by decide +kernel), List.mem_of_getElem? (i := 1231) (by decide +kernel), List.mem_of_getElem? (i := 1232) (by decide +kernel)⟩
theorem lw_p44 : lw_okq (⟨"CupsAndPeaModel", "hasLeft", "(I)Z"⟩, 31) := ⟨⟨by decide +kernel, by decide +kernel⟩, List.mem_of_getElem? (i := 904) (by decide +kernel), List.mem_of_getElem? (i := 1239) (by decide +kernel), List.mem_of_getElem? (i := 1240) (by decide +kernel)⟩
theorem lw_p45 : lw_okq (⟨"CupsAndPeaModel", "aRound", "(IZ)I"⟩, 31) := ⟨⟨by decide +kernel, by decide +kernel⟩, List.mem_of_getElem? (i := 904) (by decide +kernel), List.mem_of_getElem? (i := 1247) (by decide +kernel), List.mem_of_getElem? (i := 1248) (by decide +kernel)⟩
theorem lw_p46 : lw_okq (⟨"CupsAndPeaModel", "bestOf", "(II)I"⟩, 31) := ⟨⟨by decide +kernel, by decide +kernel⟩, List.mem_of_getElem? (i := 904) (by decide +kernel), List.mem_of_getElem? (i := 1259) (by decide +kernel), List.mem_of_getElem? (i := 1260) (by decide +kernel)⟩
theorem lw_p47 : lw_okq (⟨"CupsAndPeaModel", "tries", "(II)V"⟩, 31) := ⟨⟨by decide +kernel, by decide +kernel⟩, List.mem_of_getElem? (i := 904) (by decide +kernel), List.mem_of_getElem? (i := 1263) (by decide +kernel), List.mem_of_getElem? (i := 1264) (by decide +kernel)⟩
def lw_privs_3 : List (MethodName × Nat) := [(⟨"CupsAndPeaModel", "heaviest", "()I"⟩, 31), (⟨"CupsAndPeaModel", "rightOf", "(II)J"⟩, 31), (⟨"CupsAndPeaModel", "rightNow", "(I)J"⟩, 31), (⟨"CupsAndPeaModel", "rightAs", "(III)J"⟩, 31), (⟨"CupsAndPeaModel", "whyMisled", "(III)I"⟩, 31), (⟨"CupsAndPeaModel", "findMisled", "(III)V"⟩, 31), (⟨"CupsAndPeaModel", "layPairs", "()V"⟩, 31), (⟨"CupsAndPeaModel", "pairOf", "(III)I"⟩, 31), (⟨"CupsAndPeaModel", "isWhere", "(I)Z"⟩, 31), (⟨"CupsAndPeaModel", "findFeints", "(I)V"⟩, 31), (⟨"CupsAndPeaModel", "whose", "(II)I"⟩, 31), (⟨"CupsAndPeaModel", "sets", "(III)V"⟩, 31), (⟨"CupsAndPeaModel", "hasLeft", "(I)Z"⟩, 31), (⟨"CupsAndPeaModel", "aRound", "(IZ)I"⟩, 31), (⟨"CupsAndPeaModel", "bestOf", "(II)I"⟩, 31), (⟨"CupsAndPeaModel", "tries", "(II)V"⟩, 31)]
theorem lw_r3 : ∀ q ∈ lw_privs_3, lw_okq q := List.forall_mem_cons.mpr ⟨lw_p32, List.forall_mem_cons.mpr ⟨lw_p33, List.forall_mem_cons.mpr ⟨lw_p34, List.forall_mem_cons.mpr ⟨lw_p35, List.forall_mem_cons.mpr ⟨lw_p36, List.forall_mem_cons.mpr ⟨lw_p37, List.forall_mem_cons.mpr ⟨lw_p38, List.forall_mem_cons.mpr ⟨lw_p39, List.forall_mem_cons.mpr ⟨lw_p40, List.forall_mem_cons.mpr ⟨lw_p41, List.forall_mem_cons.mpr ⟨lw_p42, List.forall_mem_cons.mpr ⟨lw_p43, List.forall_mem_cons.mpr ⟨lw_p44, List.forall_mem_cons.mpr ⟨lw_p45, List.forall_mem_cons.mpr ⟨lw_p46, List.forall_mem_cons.mpr ⟨lw_p47, fun _ h => absurd h List.not_mem_nil⟩⟩⟩⟩⟩⟩⟩⟩⟩⟩⟩⟩⟩⟩⟩⟩
theorem lw_p48 : lw_okq (⟨"CupsAndPeaModel", "drawn", "()I"⟩, 31) := ⟨⟨by decide +kernel, by decide +kernel⟩, List.mem_of_getElem? (i := 904) (by decide +kernel), List.mem_of_getElem? (i := 1287) (by decide +kernel), List.mem_of_getElem? (i := 1288) (by decide +kernel)⟩
theorem lw_p49 : lw_okq (⟨"CupsAndPeaModel", "items", "()I"⟩, 31) := ⟨⟨by decide +kernel, by decide +kernel⟩, List.mem_of_getElem? (i := 904) (by decide +kernel), List.mem_of_getElem? (i := 1308) (by decide +kernel), List.mem_of_getElem? (i := 1309) (by decide +kernel)⟩
theorem lw_p50 : lw_okq (⟨"CupsAndPeaModel", "next", "()V"⟩, 31) := ⟨⟨by decide +kernel, by decide +kernel⟩, List.mem_of_getElem? (i := 904) (by decide +kernel), List.mem_of_getElem? (i := 1312) (by decide +kernel), List.mem_of_getElem? (i := 1313) (by decide +kernel)⟩
theorem lw_p51 : lw_okq (⟨"CupsAndPeaModel", "byteAt", "(I)I"⟩, 31) := ⟨⟨by decide +kernel, by decide +kernel⟩, List.mem_of_getElem? (i := 904) (by decide +kernel), List.mem_of_getElem? (i := 1316) (by decide +kernel), List.mem_of_getElem? (i := 1317) (by decide +kernel)⟩
theorem lw_p52 : lw_okq (⟨"CupsAndPeaModel", "item", "()V"⟩, 31) := ⟨⟨by decide +kernel, by decide +kernel⟩, List.mem_of_getElem? (i := 904) (by decide +kernel), List.mem_of_getElem? (i := 1329) (by decide +kernel), List.mem_of_getElem? (i := 1330) (by decide +kernel)⟩
theorem lw_p53 : lw_okq (⟨"CupsAndPeaModel", "kindHere", "()I"⟩, 31) := ⟨⟨by decide +kernel, by decide +kernel⟩, List.mem_of_getElem? (i := 904) (by decide +kernel), List.mem_of_getElem? (i := 1333) (by decide +kernel), List.mem_of_getElem? (i := 1334) (by decide +kernel)⟩
theorem lw_p54 : lw_okq (⟨"CupsAndPeaModel", "isWord", "(J)Z"⟩, 31) := ⟨⟨by decide +kernel, by decide +kernel⟩, List.mem_of_getElem? (i := 904) (by decide +kernel), List.mem_of_getElem? (i := 1338) (by decide +kernel), List.mem_of_getElem? (i := 1339) (by decide +kernel)⟩
theorem lw_p55 : lw_okq (⟨"CupsAndPeaModel", "passHere", "(I)V"⟩, 31) := ⟨⟨by decide +kernel, by decide +kernel⟩, List.mem_of_getElem? (i := 904) (by decide +kernel), List.mem_of_getElem? (i := 1348) (by decide +kernel), List.mem_of_getElem? (i := 1349) (by decide +kernel)⟩
theorem lw_p56 : lw_okq (⟨"CupsAndPeaModel", "wrongHere", "()V"⟩, 31) := ⟨⟨by decide +kernel, by decide +kernel⟩, List.mem_of_getElem? (i := 904) (by decide +kernel), List.mem_of_getElem? (i := 1352) (by decide +kernel), List.mem_of_getElem? (i := 1353) (by decide +kernel)⟩
theorem lw_p57 : lw_okq (⟨"CupsAndPeaModel", "numberHere", "(II)I"⟩, 31) := ⟨⟨by decide +kernel, by decide +kernel⟩, List.mem_of_getElem? (i := 904) (by decide +kernel), List.mem_of_getElem? (i := 1356) (by decide +kernel), List.mem_of_getElem? (i := 1357) (by decide +kernel)⟩
theorem lw_p58 : lw_okq (⟨"CupsAndPeaModel", "peaHere", "()V"⟩, 31) := ⟨⟨by decide +kernel, by decide +kernel⟩, List.mem_of_getElem? (i := 904) (by decide +kernel), List.mem_of_getElem? (i := 1361) (by decide +kernel), List.mem_of_getElem? (i := 1362) (by decide +kernel)⟩
theorem lw_p59 : lw_okq (⟨"CupsAndPeaModel", "eyeHere", "()V"⟩, 31) := ⟨⟨by decide +kernel, by decide +kernel⟩, List.mem_of_getElem? (i := 904) (by decide +kernel), List.mem_of_getElem? (i := 1367) (by decide +kernel), List.mem_of_getElem? (i := 1368) (by decide +kernel)⟩
theorem lw_p60 : lw_okq (⟨"CupsAndPeaModel", "playerHere", "()V"⟩, 31) := ⟨⟨by decide +kernel, by decide +kernel⟩, List.mem_of_getElem? (i := 904) (by decide +kernel), List.mem_of_getElem? (i := 1373) (by decide +kernel), List.mem_of_getElem? (i := 1374) (by decide +kernel)⟩
theorem lw_p61 : lw_okq (⟨"CupsAndPeaModel", "whyNone", "(I)I"⟩, 31) := ⟨⟨by decide +kernel, by decide +kernel⟩, List.mem_of_getElem? (i := 904) (by decide +kernel), List.mem_of_getElem? (i := 1402) (by decide +kernel), List.mem_of_getElem? (i := 1403) (by decide +kernel)⟩
theorem lw_p62 : lw_okq (⟨"CupsAndPeaModel", "sumOf", "(II)I"⟩, 31) := ⟨⟨by decide +kernel, by decide +kernel⟩, List.mem_of_getElem? (i := 904) (by decide +kernel), List.mem_of_getElem? (i := 1434) (by decide +kernel), List.mem_of_getElem? (i := 1435) (by decide +kernel)⟩
theorem lw_p63 : lw_okq (⟨"CupsAndPeaModel", "holding", "()I"⟩, 31) := ⟨⟨by decide +kernel, by decide +kernel⟩, List.mem_of_getElem? (i := 904) (by decide +kernel), List.mem_of_getElem? (i := 1438) (by decide +kernel), List.mem_of_getElem? (i := 1439) (by decide +kernel)⟩
def lw_privs_4 : List (MethodName × Nat) := [(⟨"CupsAndPeaModel", "drawn", "()I"⟩, 31), (⟨"CupsAndPeaModel", "items", "()I"⟩, 31), (⟨"CupsAndPeaModel", "next", "()V"⟩, 31), (⟨"CupsAndPeaModel", "byteAt", "(I)I"⟩, 31), (⟨"CupsAndPeaModel", "item", "()V"⟩, 31), (⟨"CupsAndPeaModel", "kindHere", "()I"⟩, 31), (⟨"CupsAndPeaModel", "isWord", "(J)Z"⟩, 31), (⟨"CupsAndPeaModel", "passHere", "(I)V"⟩, 31), (⟨"CupsAndPeaModel", "wrongHere", "()V"⟩, 31), (⟨"CupsAndPeaModel", "numberHere", "(II)I"⟩, 31), (⟨"CupsAndPeaModel", "peaHere", "()V"⟩, 31), (⟨"CupsAndPeaModel", "eyeHere", "()V"⟩, 31), (⟨"CupsAndPeaModel", "playerHere", "()V"⟩, 31), (⟨"CupsAndPeaModel", "whyNone", "(I)I"⟩, 31), (⟨"CupsAndPeaModel", "sumOf", "(II)I"⟩, 31), (⟨"CupsAndPeaModel", "holding", "()I"⟩, 31)]
theorem lw_r4 : ∀ q ∈ lw_privs_4, lw_okq q := List.forall_mem_cons.mpr ⟨lw_p48, List.forall_mem_cons.mpr ⟨lw_p49, List.forall_mem_cons.mpr ⟨lw_p50, List.forall_mem_cons.mpr ⟨lw_p51, List.forall_mem_cons.mpr ⟨lw_p52, List.forall_mem_cons.mpr ⟨lw_p53, List.forall_mem_cons.mpr ⟨lw_p54, List.forall_mem_cons.mpr ⟨lw_p55, List.forall_mem_cons.mpr ⟨lw_p56, List.forall_mem_cons.mpr ⟨lw_p57, List.forall_mem_cons.mpr ⟨lw_p58, List.forall_mem_cons.mpr ⟨lw_p59, List.forall_mem_cons.mpr ⟨lw_p60, List.forall_mem_cons.mpr ⟨lw_p61, List.forall_mem_cons.mpr ⟨lw_p62, List.forall_mem_cons.mpr ⟨lw_p63, fun _ h => absurd h List.not_mem_nil⟩⟩⟩⟩⟩⟩⟩⟩⟩⟩⟩⟩⟩⟩⟩⟩
def lw_privs : List (MethodName × Nat) := lw_privs_1 ++ (lw_privs_2 ++ (lw_privs_3 ++ (lw_privs_4)))
def lw_tbl : List Cond := k2_sels lw_privs ++ tables_1
theorem lw_privs_ok : ∀ q ∈ lw_privs, lw_okq q := by
  show ∀ q ∈ lw_privs_1 ++ (lw_privs_2 ++ (lw_privs_3 ++ (lw_privs_4))), lw_okq q
  exact List.forall_mem_append.mpr ⟨lw_r1, List.forall_mem_append.mpr ⟨lw_r2, List.forall_mem_append.mpr ⟨lw_r3, lw_r4⟩⟩⟩
-- ===== end of PART A; then your names; then what follows =====
end
section
/-! A SMALL MACHINE, over whole numbers: what the bytecode of class, reference and law does on a heap of cells 1, 2, ..
    (0 is null). Its steps are in the style of continuations, so that a branch keeps both ways. Instr is used again as
    the table of small steps (resolved: fields, methods, constants, jump places are numbers): sipush is a long constant,
    ldc and getstatic name a thing that was there before (script, static row, text), fadd and fsub are min and max, swap
    is arraycopy, nop is Object's own <init>, dadd and dsub are a text's length and charAt, freturn a boolean's return. -/
abbrev zV : Type := Int ⊕ (Int ⊕ (Nat ⊕ Nat))
abbrev zMem : Type := (Nat → Nat → Int) × ((Nat → Nat → Nat) × ((Nat → Nat × (Nat × Nat)) × (Nat × Nat)))
abbrev zLoc : Type := List (Option zV)
abbrev zRes : Type := Option (Option zV × zMem)
abbrev zK : Type := Nat → zLoc → List zV → zMem → zRes
abbrev zC : Type := Nat → List zV → zMem → zRes
abbrev zX : Type := Nat → Nat × (Nat → Int)
def zcat : zV → Nat
  | .inr (.inl _) => 2
  | _ => 1
def w8 (x : Int) : Int := (x + 128) % 256 - 128
def w16 (x : Int) : Int := (x + 32768) % 65536 - 32768
def w32 (x : Int) : Int := (x + 2147483648) % 4294967296 - 2147483648
def w64 (x : Int) : Int := (x + 9223372036854775808) % 18446744073709551616 - 9223372036854775808
def zand (x y : Int) : Int := (Int32.ofInt x &&& Int32.ofInt y).toInt
def zor (x y : Int) : Int := (Int32.ofInt x ||| Int32.ofInt y).toInt
def zshl (x y : Int) : Int := w32 (x * 2 ^ (y % 32).toNat)
def zshr (x y : Int) : Int := x / 2 ^ (y % 32).toNat
def zushr (x y : Int) : Int := w32 (x % 4294967296 / 2 ^ (y % 32).toNat)
/-- a number of the heap is written -/
def zw (σ : zMem) (a j : Nat) (v : Int) : zMem := (fun a' j' => if a' = a ∧ j' = j then v else σ.1 a' j', σ.2)
/-- a reference of the heap is written -/
def zwr (σ : zMem) (a j : Nat) (v : Nat) : zMem := (σ.1, (fun a' j' => if a' = a ∧ j' = j then v else σ.2.1 a' j', σ.2.2))
/-- a cell more, of a kind, with so many slots -/
def zmake (σ : zMem) (k : Nat × (Nat × Nat)) (n : Nat) : zMem :=
  (fun a j => if a = σ.2.2.2.1 + 1 then 0 else σ.1 a j, (fun a j => if a = σ.2.2.2.1 + 1 then 0 else σ.2.1 a j, (fun a => if a = σ.2.2.2.1 + 1 then k else σ.2.2.1 a, (σ.2.2.2.1 + 1, σ.2.2.2.2 + n))))
/-- so many rows of longs more, and the row of them; its address is that of the next cell -/
def zmulti (σ : zMem) (n m : Nat) : zMem :=
  (fun a j => if a ≤ σ.2.2.2.1 then σ.1 a j else 0, (fun a j => if a = σ.2.2.2.1 + 1 then (if j < n then σ.2.2.2.1 + 2 + j else 0) else if a ≤ σ.2.2.2.1 then σ.2.1 a j else 0, (fun a => if a = σ.2.2.2.1 + 1 then (6, (n, 0)) else if a ≤ σ.2.2.2.1 then σ.2.2.1 a else if a ≤ σ.2.2.2.1 + 1 + n then (3, (m, 0)) else (0, (0, 0)), (σ.2.2.2.1 + 1 + n, σ.2.2.2.2 + n + n * m))))
/-- n numbers of a row come to another one -/
def zcopy (σ : zMem) (src sp dst dp n : Nat) : zMem := (fun a j => if a = dst ∧ dp ≤ j ∧ j < dp + n then σ.1 src (sp + (j - dp)) else σ.1 a j, σ.2)
/-- a local that is stored into frees what stood across it -/
def zkill (ls : zLoc) (i : Nat) : zLoc := match i with
  | 0 => ls
  | j + 1 => match ls[j]? with
    | some (some (.inr (.inl _))) => ls.set j none
    | _ => ls
def zpop : Nat → List zV → List zV → Option (List zV × List zV)
  | 0, st, acc => some (acc, st)
  | n + 1, v :: st, acc => zpop n st (v :: acc)
  | _ + 1, [], _ => none
def zlook : List (Int × Int) → Int → Int → Int
  | [], d, _ => d
  | (a, t) :: l, d, z => if z = a then t else zlook l d z
def zcmp (x y : Int) : Int := if x < y then -1 else if x = y then 0 else 1
/-- one step; nx is the place of the next instruction, k what goes on from a place -/
def zstep (X : zX) (C : zC) (i : Instr) (ls : zLoc) (st : List zV) (σ : zMem) (nx : Nat) (k : zK) : zRes :=
  match i with
  | .iconst n => k nx ls (.inl n :: st) σ
  | .sipush n => k nx ls (.inr (.inl n) :: st) σ
  | .ldc j => k nx ls (.inr (.inr (.inr j)) :: st) σ
  | .getstatic j => k nx ls (.inr (.inr (.inr j)) :: st) σ
  | .iload i => match ls[i]? with
    | some (some (.inl z)) => k nx ls (.inl z :: st) σ
    | _ => none
  | .lload i => match ls[i]? with
    | some (some (.inr (.inl z))) => k nx ls (.inr (.inl z) :: st) σ
    | _ => none
  | .aload i => match ls[i]? with
    | some (some (.inr (.inr z))) => k nx ls (.inr (.inr z) :: st) σ
    | _ => none
  | .istore i => match st with
    | .inl z :: r => match Nat.blt i ls.length with
      | true => k nx ((zkill ls i).set i (some (.inl z))) r σ
      | false => none
    | _ => none
  | .lstore i => match st with
    | .inr (.inl z) :: r => match Nat.blt (i + 1) ls.length with
      | true => k nx (((zkill ls i).set i (some (.inr (.inl z)))).set (i + 1) none) r σ
      | false => none
    | _ => none
  | .astore i => match st with
    | .inr (.inr (.inl z)) :: r => match Nat.blt i ls.length with
      | true => k nx ((zkill ls i).set i (some (.inr (.inr (.inl z))))) r σ
      | false => none
    | _ => none
  | .iinc i c => match ls[i]? with
    | some (some (.inl z)) => k nx ((zkill ls i).set i (some (.inl (w32 (z + c))))) st σ
    | _ => none
  | .iadd => match st with
    | .inl y :: .inl x :: r => k nx ls (.inl (w32 (x + y)) :: r) σ
    | _ => none
  | .isub => match st with
    | .inl y :: .inl x :: r => k nx ls (.inl (w32 (x - y)) :: r) σ
    | _ => none
  | .imul => match st with
    | .inl y :: .inl x :: r => k nx ls (.inl (w32 (x * y)) :: r) σ
    | _ => none
  | .idiv => match st with
    | .inl y :: .inl x :: r => if y = 0 then none else k nx ls (.inl (w32 (x.tdiv y)) :: r) σ
    | _ => none
  | .irem => match st with
    | .inl y :: .inl x :: r => if y = 0 then none else k nx ls (.inl (x.tmod y) :: r) σ
    | _ => none
  | .iand => match st with
    | .inl y :: .inl x :: r => k nx ls (.inl (zand x y) :: r) σ
    | _ => none
  | .ior => match st with
    | .inl y :: .inl x :: r => k nx ls (.inl (zor x y) :: r) σ
    | _ => none
  | .ishl => match st with
    | .inl y :: .inl x :: r => k nx ls (.inl (zshl x y) :: r) σ
    | _ => none
  | .ishr => match st with
    | .inl y :: .inl x :: r => k nx ls (.inl (zshr x y) :: r) σ
    | _ => none
  | .iushr => match st with
    | .inl y :: .inl x :: r => k nx ls (.inl (zushr x y) :: r) σ
    | _ => none
  | .i2l => match st with
    | .inl x :: r => k nx ls (.inr (.inl x) :: r) σ
    | _ => none
  | .l2i => match st with
    | .inr (.inl x) :: r => k nx ls (.inl (w32 x) :: r) σ
    | _ => none
  | .i2b => match st with
    | .inl x :: r => k nx ls (.inl (w8 x) :: r) σ
    | _ => none
  | .i2s => match st with
    | .inl x :: r => k nx ls (.inl (w16 x) :: r) σ
    | _ => none
  | .ladd => match st with
    | .inr (.inl y) :: .inr (.inl x) :: r => k nx ls (.inr (.inl (w64 (x + y))) :: r) σ
    | _ => none
  | .lsub => match st with
    | .inr (.inl y) :: .inr (.inl x) :: r => k nx ls (.inr (.inl (w64 (x - y))) :: r) σ
    | _ => none
  | .lmul => match st with
    | .inr (.inl y) :: .inr (.inl x) :: r => k nx ls (.inr (.inl (w64 (x * y))) :: r) σ
    | _ => none
  | .lcmp => match st with
    | .inr (.inl y) :: .inr (.inl x) :: r => k nx ls (.inl (zcmp x y) :: r) σ
    | _ => none
  | .dup => match st with
    | .inl x :: r => k nx ls (.inl x :: .inl x :: r) σ
    | .inr (.inr x) :: r => k nx ls (.inr (.inr x) :: .inr (.inr x) :: r) σ
    | _ => none
  | .dup2 => match st with
    | .inr (.inl x) :: r => k nx ls (.inr (.inl x) :: .inr (.inl x) :: r) σ
    | .inl x :: .inr (.inr y) :: r => k nx ls (.inl x :: .inr (.inr y) :: .inl x :: .inr (.inr y) :: r) σ
    | _ => none
  | .pop => match st with
    | .inl _ :: r => k nx ls r σ
    | .inr (.inr _) :: r => k nx ls r σ
    | _ => none
  | .ifCond c t => match st with
    | .inl x :: r => match c with
      | .eq => if x = 0 then k t.toNat ls r σ else k nx ls r σ
      | .ne => if x = 0 then k nx ls r σ else k t.toNat ls r σ
      | .lt => if x < 0 then k t.toNat ls r σ else k nx ls r σ
      | .ge => if x < 0 then k nx ls r σ else k t.toNat ls r σ
      | .gt => if 0 < x then k t.toNat ls r σ else k nx ls r σ
      | .le => if 0 < x then k nx ls r σ else k t.toNat ls r σ
    | _ => none
  | .if_icmp c t => match st with
    | .inl y :: .inl x :: r => match c with
      | .eq => if x = y then k t.toNat ls r σ else k nx ls r σ
      | .ne => if x = y then k nx ls r σ else k t.toNat ls r σ
      | .lt => if x < y then k t.toNat ls r σ else k nx ls r σ
      | .ge => if x < y then k nx ls r σ else k t.toNat ls r σ
      | .gt => if y < x then k t.toNat ls r σ else k nx ls r σ
      | .le => if y < x then k nx ls r σ else k t.toNat ls r σ
    | _ => none
  | .goto t => k t.toNat ls st σ
  | .tableswitch d lo hi ts => match st with
    | .inl x :: r => if x < lo then k d.toNat ls r σ else if hi < x then k d.toNat ls r σ else match ts.toList[(x - lo).toNat]? with
      | some t => k t.toNat ls r σ
      | none => none
    | _ => none
  | .lookupswitch d ps => match st with
    | .inl x :: r => k (zlook ps.toList d x).toNat ls r σ
    | _ => none
  | .getfield n => match st with
    | .inr (.inr (.inl a)) :: r => if σ.2.2.1 a = (1, (n / 256, 0)) then match n % 4 with
        | 1 => k nx ls (.inr (.inl (σ.1 a (n / 4 % 64))) :: r) σ
        | 3 => k nx ls (.inr (.inr (.inl (σ.2.1 a (n / 4 % 64)))) :: r) σ
        | _ => k nx ls (.inl (σ.1 a (n / 4 % 64)) :: r) σ
      else none
    | _ => none
  | .putfield n => match st with
    | .inl v :: .inr (.inr (.inl a)) :: r => if σ.2.2.1 a = (1, (n / 256, 0)) then match n % 4 with
        | 0 => k nx ls r (zw σ a (n / 4 % 64) v)
        | 2 => if v = 0 ∨ v = 1 then k nx ls r (zw σ a (n / 4 % 64) v) else none
        | _ => none
      else none
    | .inr (.inl v) :: .inr (.inr (.inl a)) :: r => if σ.2.2.1 a = (1, (n / 256, 0)) then match n % 4 with
        | 1 => k nx ls r (zw σ a (n / 4 % 64) v)
        | _ => none
      else none
    | .inr (.inr (.inl v)) :: .inr (.inr (.inl a)) :: r => if σ.2.2.1 a = (1, (n / 256, 0)) then match n % 4 with
        | 3 => k nx ls r (zwr σ a (n / 4 % 64) v)
        | _ => none
      else none
    | _ => none
  | .iaload => match st with
    | .inl i :: .inr (.inr (.inl a)) :: r => if (σ.2.2.1 a).1 = 2 ∧ 0 ≤ i ∧ i < (σ.2.2.1 a).2.1 then k nx ls (.inl (σ.1 a i.toNat) :: r) σ else none
    | .inl i :: .inr (.inr (.inr j)) :: r => if j < 4 ∧ 0 ≤ i ∧ i < (X j).1 then k nx ls (.inl ((X j).2 i.toNat) :: r) σ else none
    | _ => none
  | .laload => match st with
    | .inl i :: .inr (.inr (.inl a)) :: r => if (σ.2.2.1 a).1 = 3 ∧ 0 ≤ i ∧ i < (σ.2.2.1 a).2.1 then k nx ls (.inr (.inl (σ.1 a i.toNat)) :: r) σ else none
    | _ => none
  | .baload => match st with
    | .inl i :: .inr (.inr (.inl a)) :: r => if (σ.2.2.1 a).1 = 4 ∧ 0 ≤ i ∧ i < (σ.2.2.1 a).2.1 then k nx ls (.inl (σ.1 a i.toNat) :: r) σ else none
    | _ => none
  | .aaload => match st with
    | .inl i :: .inr (.inr (.inl a)) :: r => if ((σ.2.2.1 a).1 = 5 ∨ (σ.2.2.1 a).1 = 6) ∧ 0 ≤ i ∧ i < (σ.2.2.1 a).2.1 then k nx ls (.inr (.inr (.inl (σ.2.1 a i.toNat))) :: r) σ else none
    | _ => none
  | .iastore => match st with
    | .inl v :: .inl i :: .inr (.inr (.inl a)) :: r => if (σ.2.2.1 a).1 = 2 ∧ 0 ≤ i ∧ i < (σ.2.2.1 a).2.1 then k nx ls r (zw σ a i.toNat v) else none
    | _ => none
  | .lastore => match st with
    | .inr (.inl v) :: .inl i :: .inr (.inr (.inl a)) :: r => if (σ.2.2.1 a).1 = 3 ∧ 0 ≤ i ∧ i < (σ.2.2.1 a).2.1 then k nx ls r (zw σ a i.toNat v) else none
    | _ => none
  | .bastore => match st with
    | .inl v :: .inl i :: .inr (.inr (.inl a)) :: r => if (σ.2.2.1 a).1 = 4 ∧ 0 ≤ i ∧ i < (σ.2.2.1 a).2.1 then k nx ls r (zw σ a i.toNat (w8 v)) else none
    | _ => none
  | .aastore => match st with
    | .inr (.inr (.inl v)) :: .inl i :: .inr (.inr (.inl a)) :: r => if (σ.2.2.1 a).1 = 5 ∧ 0 ≤ i ∧ i < (σ.2.2.1 a).2.1 ∧ σ.2.2.1 v = (1, ((σ.2.2.1 a).2.2, 0)) then k nx ls r (zwr σ a i.toNat v) else none
    | _ => none
  | .arraylength => match st with
    | .inr (.inr (.inr j)) :: r => if j < 4 then k nx ls (.inl (X j).1 :: r) σ else none
    | _ => none
  | .new n => k nx ls (.inr (.inr (.inl (σ.2.2.2.1 + 1))) :: st) (zmake σ (1, (n / 256, 0)) (n % 256))
  | .newarray t => match st with
    | .inl n :: r => if 0 ≤ n ∧ n ≤ 100000 then match t with
        | .int => k nx ls (.inr (.inr (.inl (σ.2.2.2.1 + 1))) :: r) (zmake σ (2, (n.toNat, 0)) n.toNat)
        | .long => k nx ls (.inr (.inr (.inl (σ.2.2.2.1 + 1))) :: r) (zmake σ (3, (n.toNat, 0)) n.toNat)
        | .byte => k nx ls (.inr (.inr (.inl (σ.2.2.2.1 + 1))) :: r) (zmake σ (4, (n.toNat, 0)) n.toNat)
        | _ => none
      else none
    | _ => none
  | .anewarray c => match st with
    | .inl n :: r => if 0 ≤ n ∧ n ≤ 100000 then k nx ls (.inr (.inr (.inl (σ.2.2.2.1 + 1))) :: r) (zmake σ (5, (n.toNat, c)) n.toNat) else none
    | _ => none
  | .multianewarray _ _ => match st with
    | .inl m :: .inl n :: r => if 0 ≤ n ∧ n ≤ 1000 ∧ 0 ≤ m ∧ m ≤ 1000 then k nx ls (.inr (.inr (.inl (σ.2.2.2.1 + 1))) :: r) (zmulti σ n.toNat m.toNat) else none
    | _ => none
  | .invokevirtual n => match zpop (n % 16) st [] with
    | some (.inr (.inr (.inl a)) :: as, r) => match Nat.ble ((r.map zcat).sum) 8 with
      | true => if σ.2.2.1 a = (1, (n / 16 % 64, 0)) then (C (n / 1024) (.inr (.inr (.inl a)) :: as) σ).bind fun q => k nx ls (q.1.toList ++ r) q.2 else none
      | false => none
    | _ => none
  | .invokespecial n => match zpop (n % 16) st [] with
    | some (.inr (.inr (.inl a)) :: as, r) => match Nat.ble ((r.map zcat).sum) 8 with
      | true => if σ.2.2.1 a = (1, (n / 16 % 64, 0)) then (C (n / 1024) (.inr (.inr (.inl a)) :: as) σ).bind fun q => k nx ls (q.1.toList ++ r) q.2 else none
      | false => none
    | _ => none
  | .invokestatic n => match zpop (n % 16) st [] with
    | some (as, r) => match Nat.ble ((r.map zcat).sum) 8 with
      | true => (C (n / 1024) as σ).bind fun q => k nx ls (q.1.toList ++ r) q.2
      | false => none
    | _ => none
  | .fadd => match st with
    | .inl y :: .inl x :: r => match Nat.ble ((r.map zcat).sum) 8 with
      | true => k nx ls (.inl (if y < x then y else x) :: r) σ
      | false => none
    | _ => none
  | .fsub => match st with
    | .inl y :: .inl x :: r => match Nat.ble ((r.map zcat).sum) 8 with
      | true => k nx ls (.inl (if x < y then y else x) :: r) σ
      | false => none
    | _ => none
  | .swap => match st with
    | .inl n :: .inl dp :: .inr (.inr (.inl dst)) :: .inl sp :: .inr (.inr (.inl src)) :: r => match Nat.ble ((r.map zcat).sum) 8 with
      | true => if (σ.2.2.1 src).1 = 2 ∧ (σ.2.2.1 dst).1 = 2 ∧ 0 ≤ sp ∧ 0 ≤ dp ∧ 0 ≤ n ∧ sp + n ≤ (σ.2.2.1 src).2.1 ∧ dp + n ≤ (σ.2.2.1 dst).2.1 then k nx ls r (zcopy σ src sp.toNat dst dp.toNat n.toNat) else none
      | false => none
    | _ => none
  | .nop => match st with
    | .inr (.inr (.inl a)) :: r => match Nat.ble ((r.map zcat).sum) 8 with
      | true => if a = 0 then none else k nx ls r σ
      | false => none
    | _ => none
  | .dadd => match st with
    | .inr (.inr (.inr j)) :: r => match Nat.ble ((r.map zcat).sum) 8 with
      | true => if 4 ≤ j ∧ 0 < (X j).1 then k nx ls (.inl (X j).1 :: r) σ else none
      | false => none
    | _ => none
  | .dsub => match st with
    | .inl i :: .inr (.inr (.inr j)) :: r => match Nat.ble ((r.map zcat).sum) 8 with
      | true => if 4 ≤ j ∧ 0 ≤ i ∧ i < (X j).1 then k nx ls (.inl ((X j).2 i.toNat) :: r) σ else none
      | false => none
    | _ => none
  | .ireturn => match st with
    | [.inl z] => some (some (.inl z), σ)
    | _ => none
  | .freturn => match st with
    | [.inl z] => if z = 0 ∨ z = 1 then some (some (.inl z), σ) else none
    | _ => none
  | .lreturn => match st with
    | [.inr (.inl z)] => some (some (.inr (.inl z)), σ)
    | _ => none
  | .areturn => match st with
    | [.inr (.inr z)] => some (some (.inr (.inr z)), σ)
    | _ => none
  | .return_ => match st with
    | [] => some (none, σ)
    | _ => none
  | _ => none
/-- a place of the code -/
def zfind : List (Nat × (Instr × Nat)) → Nat → Option (Instr × Nat)
  | [], _ => none
  | (p, q) :: l, pc => match Nat.beq p pc with
    | true => some q
    | false => zfind l pc
def zrun (X : zX) (C : zC) (code : List (Nat × (Instr × Nat))) : Nat → zK
  | 0 => fun _ _ _ _ => none
  | n + 1 => fun pc ls st σ => match zfind code pc with
    | none => none
    | some (i, nx) => zstep X C i ls st σ nx (zrun X C code n)
def zargs : List zV → zLoc
  | [] => []
  | v :: r => match v with
    | .inr (.inl _) => some v :: none :: zargs r
    | _ => some v :: zargs r
def zinit (as : List zV) (nl : Nat) : zLoc := zargs as ++ List.replicate (nl - (zargs as).length) none
/-- what comes out of some of them (they agree) -/
noncomputable def zlim {α : Type} (f : Nat → Option α) : Option α := @dite (Option α) (∃ n r, f n = some r) (Classical.propDecidable _) (fun h => f (Classical.choose h)) (fun _ => none)
theorem zlim_of {α : Type} {f : Nat → Option α} (hm : ∀ n r, f n = some r → f (n + 1) = some r) {n : Nat} {r : α} (h : f n = some r) : zlim f = some r := by
  have up : ∀ (k n : Nat) (r : α), f n = some r → f (n + k) = some r := by
    intro k
    induction k with
    | zero => intro n r h; exact h
    | succ k ih => intro n r h; exact hm _ _ (ih n r h)
  have hx : ∃ n r, f n = some r := ⟨n, r, h⟩
  unfold zlim
  rw [dif_pos hx]
  obtain ⟨r', h'⟩ := Classical.choose_spec hx
  have h1 := up n _ _ h'
  have h2 := up (Classical.choose hx) _ _ h
  rw [Nat.add_comm] at h2
  rw [h', ← h1, h2]
theorem zlim_get {α : Type} {f : Nat → Option α} {r : α} (h : zlim f = some r) : ∃ n, f n = some r := by
  unfold zlim at h
  split at h
  · exact ⟨_, h⟩
  · cases h
/-- the table of the methods: how many locals, the code -/
abbrev zT : Type := Nat → Option (Nat × List (Nat × (Instr × Nat)))
noncomputable def zcall (X : zX) (P : zT) : Nat → zC
  | 0 => fun _ _ _ => none
  | d + 1 => fun y as σ => match P y with
    | none => none
    | some q => zlim (fun n => zrun X (zcall X P d) q.2 n 0 (zinit as q.1) [] σ)
/-- the same, with so many steps for each method: to be counted out -/
def zcallF (X : zX) (P : zT) (F : Nat) : Nat → zC
  | 0 => fun _ _ _ => none
  | d + 1 => fun y as σ => match P y with
    | none => none
    | some q => zrun X (zcallF X P F d) q.2 F 0 (zinit as q.1) [] σ
set_option maxHeartbeats 4000000 in
theorem zstep_mono {X : zX} {C C' : zC} {i : Instr} {ls : zLoc} {st : List zV} {σ : zMem} {nx : Nat} {k k' : zK} {r : Option zV × zMem} (hC : ∀ y as σ r, C y as σ = some r → C' y as σ = some r) (hk : ∀ pc ls st σ r, k pc ls st σ = some r → k' pc ls st σ = some r) (h : zstep X C i ls st σ nx k = some r) : zstep X C' i ls st σ nx k' = some r := by
  cases i
  all_goals simp only [zstep] at h ⊢
  all_goals (repeat' split at h)
  all_goals first
    | (cases h; done)
    | exact hk _ _ _ _ _ h
    | exact h
    | (simp only [*, if_true, if_false, not_true_eq_false, not_false_eq_true, and_self, or_true, true_or] at h ⊢; exact hk _ _ _ _ _ h)
    | (simp only [*, if_true, if_false, not_true_eq_false, not_false_eq_true, and_self, or_true, true_or] at h ⊢; exact h)
    | (obtain ⟨q, h1, h2⟩ := Option.bind_eq_some_iff.mp h
       simp only [*, if_true, if_false]
       exact Option.bind_eq_some_iff.mpr ⟨q, hC _ _ _ _ h1, hk _ _ _ _ _ h2⟩)
    | (simp only [*]
       exact Option.bind_eq_some_iff.mpr ((Option.bind_eq_some_iff.mp h).imp fun q hq => ⟨hC _ _ _ _ hq.1, hk _ _ _ _ _ hq.2⟩))
    | (rw [if_pos (by assumption)]; exact h)
    | (simp_all only [Option.bind_eq_some_iff]
       exact h.imp fun q hq => ⟨hC _ _ _ _ hq.1, hk _ _ _ _ _ hq.2⟩)
theorem zrun_mono {X : zX} {C C' : zC} (hC : ∀ y as σ r, C y as σ = some r → C' y as σ = some r) {code : List (Nat × (Instr × Nat))} : ∀ (n m : Nat), n ≤ m → ∀ (pc : Nat) (ls : zLoc) (st : List zV) (σ : zMem) (r : Option zV × zMem), zrun X C code n pc ls st σ = some r → zrun X C' code m pc ls st σ = some r := by
  intro n
  induction n with
  | zero => intro m _ pc ls st σ r h; cases h
  | succ n ih =>
    intro m hm pc ls st σ r h
    cases m with
    | zero => exact absurd hm (by omega)
    | succ m =>
      simp only [zrun] at h ⊢
      cases hf : zfind code pc with
      | none => rw [hf] at h; cases h
      | some q =>
        rw [hf] at h
        exact zstep_mono hC (fun pc ls st σ r h => ih m (by omega) pc ls st σ r h) h
theorem zcall_of {X : zX} {P : zT} {d y nl n : Nat} {code : List (Nat × (Instr × Nat))} {as : List zV} {σ : zMem} {r : Option zV × zMem} (hP : P y = some (nl, code)) (h : zrun X (zcall X P d) code n 0 (zinit as nl) [] σ = some r) : zcall X P (d + 1) y as σ = some r := by
  simp only [zcall, hP]
  exact zlim_of (fun n r h => zrun_mono (fun _ _ _ _ h => h) n (n + 1) (by omega) _ _ _ _ _ h) h
theorem zcall_get {X : zX} {P : zT} {d y : Nat} {as : List zV} {σ : zMem} {r : Option zV × zMem} (h : zcall X P (d + 1) y as σ = some r) : ∃ nl code n, P y = some (nl, code) ∧ zrun X (zcall X P d) code n 0 (zinit as nl) [] σ = some r := by
  simp only [zcall] at h
  cases hP : P y with
  | none => rw [hP] at h; cases h
  | some q =>
    rw [hP] at h
    obtain ⟨n, hn⟩ := zlim_get h
    exact ⟨q.1, q.2, n, rfl, hn⟩
theorem zcallF_call {X : zX} {P : zT} {F : Nat} : ∀ (d y : Nat) (as : List zV) (σ : zMem) (r : Option zV × zMem), zcallF X P F d y as σ = some r → zcall X P d y as σ = some r := by
  intro d
  induction d with
  | zero => intro y as σ r h; cases h
  | succ d ih =>
    intro y as σ r h
    simp only [zcallF] at h
    cases hP : P y with
    | none => rw [hP] at h; cases h
    | some q =>
      rw [hP] at h
      exact zcall_of hP (zrun_mono ih F F (Nat.le_refl F) _ _ _ _ _ h)
theorem zcall_up {X : zX} {P : zT} : ∀ (d y : Nat) (as : List zV) (σ : zMem) (r : Option zV × zMem), zcall X P d y as σ = some r → zcall X P (d + 1) y as σ = some r := by
  intro d
  induction d with
  | zero => intro y as σ r h; cases h
  | succ d ih =>
    intro y as σ r h
    obtain ⟨nl, code, n, hP, hn⟩ := zcall_get h
    exact zcall_of hP (zrun_mono ih n n (Nat.le_refl n) _ _ _ _ _ hn)
end
section
/-! THE MACHINE'S NUMBERS as whole numbers. -/
theorem zn_w32 (x : Int) : x.bmod (2 ^ 32) = w32 x := by
  unfold w32 Int.bmod
  simp only [show ((2 ^ 32 : Nat) : Int) = 4294967296 from rfl]
  split <;> omega
theorem zn_w64 (x : Int) : x.bmod (2 ^ 64) = w64 x := by
  unfold w64 Int.bmod
  simp only [show ((2 ^ 64 : Nat) : Int) = 18446744073709551616 from rfl]
  split <;> omega
theorem zn_w8 (x : Int) : x.bmod (2 ^ 8) = w8 x := by
  unfold w8 Int.bmod
  simp only [show ((2 ^ 8 : Nat) : Int) = 256 from rfl]
  split <;> omega
theorem zn_w16 (x : Int) : x.bmod (2 ^ 16) = w16 x := by
  unfold w16 Int.bmod
  simp only [show ((2 ^ 16 : Nat) : Int) = 65536 from rfl]
  split <;> omega
theorem zn_in (x : Int32) : -2147483648 ≤ x.toInt ∧ x.toInt < 2147483648 := ⟨by have := Int32.le_toInt x; simpa using this, by have := Int32.toInt_lt x; simpa using this⟩
theorem zn_inL (x : Int64) : -9223372036854775808 ≤ x.toInt ∧ x.toInt < 9223372036854775808 := ⟨by have := Int64.le_toInt x; simpa using this, by have := Int64.toInt_lt x; simpa using this⟩
theorem zn_add (x y : Int32) : (x + y).toInt = w32 (x.toInt + y.toInt) := by rw [Int32.toInt_add, zn_w32]
theorem zn_sub (x y : Int32) : (x - y).toInt = w32 (x.toInt - y.toInt) := by rw [Int32.toInt_sub, zn_w32]
theorem zn_mul (x y : Int32) : (x * y).toInt = w32 (x.toInt * y.toInt) := by rw [Int32.toInt_mul, zn_w32]
theorem zn_div (x y : Int32) : (x / y).toInt = w32 (x.toInt.tdiv y.toInt) := by rw [Int32.toInt_div, zn_w32]
theorem zn_ofInt (n : Int) : (Int32.ofInt n).toInt = w32 n := by rw [Int32.toInt_ofInt, zn_w32]
theorem zn_ofIntIn {n : Int} (h : -2147483648 ≤ n) (h2 : n < 2147483648) : (Int32.ofInt n).toInt = n := by rw [zn_ofInt]; unfold w32; omega
theorem zn_w32id {n : Int} (h : -2147483648 ≤ n) (h2 : n < 2147483648) : w32 n = n := by unfold w32; omega
theorem zn_w64id {n : Int} (h : -9223372036854775808 ≤ n) (h2 : n < 9223372036854775808) : w64 n = n := by unfold w64; omega
theorem zn_eq0 (y : Int32) : y = 0 ↔ y.toInt = 0 := by rw [← Int32.toInt_inj]; rfl
theorem zn_rem (x y : Int32) (hy : ¬ y.toInt = 0) : (x - x / y * y).toInt = x.toInt.tmod y.toInt := by
  have h : (x - x / y * y).toInt = w32 (x.toInt - x.toInt.tdiv y.toInt * y.toInt) := by
    rw [zn_sub, zn_mul, zn_div]
    unfold w32
    generalize x.toInt.tdiv y.toInt = q
    generalize hz : y.toInt = z
    have e1 : (q + 2147483648) % 4294967296 - 2147483648 = q - 4294967296 * ((q + 2147483648) / 4294967296) := by omega
    rw [e1, Int.sub_mul]
    generalize ((q + 2147483648) / 4294967296) = t
    have e2 : 4294967296 * t * z = 4294967296 * (t * z) := by rw [Int.mul_assoc]
    rw [e2]
    generalize t * z = v
    generalize q * z = w
    omega
  rw [h]
  have h2 : x.toInt - x.toInt.tdiv y.toInt * y.toInt = x.toInt.tmod y.toInt := by
    have := Int.tmod_add_tdiv_mul x.toInt y.toInt
    have e : x.toInt.tdiv y.toInt * y.toInt = y.toInt * x.toInt.tdiv y.toInt := Int.mul_comm _ _
    first | omega | (rw [Int.mul_comm] at this; omega)
  rw [h2]
  have hb : x.toInt.tmod y.toInt = (x % y).toInt := (Int32.toInt_mod x y).symm
  rw [hb]
  have := zn_in (x % y)
  exact zn_w32id this.1 this.2
theorem zn_and (x y : Int32) : (x &&& y).toInt = zand x.toInt y.toInt := by unfold zand; rw [Int32.ofInt_toInt, Int32.ofInt_toInt]
theorem zn_or (x y : Int32) : (x ||| y).toInt = zor x.toInt y.toInt := by unfold zor; rw [Int32.ofInt_toInt, Int32.ofInt_toInt]
theorem zn_bv (x : Int32) : x.toInt = ((x.toBitVec.toNat : Int) + 2147483648) % 4294967296 - 2147483648 := by
  have h : x.toInt = x.toBitVec.toInt := rfl
  rw [h, BitVec.toInt_eq_toNat_bmod, zn_w32]
  rfl
theorem zn_amt (y : Int32) : y &&& 31 = nI (y.toInt % 32).toNat := by
  rw [pk_and y (m := 31) 5 (by decide)]
  congr 1
  rw [zn_bv y]
  have := y.toBitVec.isLt
  omega
theorem zn_amtk (y : Int32) : ((y &&& 31).toBitVec.smod 32).toNat = (y.toInt % 32).toNat := by
  rw [zn_amt y]
  have h : (y.toInt % 32).toNat < 32 := by omega
  generalize (y.toInt % 32).toNat = n at h
  revert n
  decide +kernel
theorem zn_shl (x y : Int32) : (x <<< (y &&& 31)).toInt = zshl x.toInt y.toInt := by
  unfold zshl
  rw [zn_bv, pk_shl x (y &&& 31) _ (zn_amtk y), zn_bv x]
  generalize x.toBitVec.toNat = a
  generalize (y.toInt % 32).toNat = k
  unfold w32
  have e : ((a * 2 ^ k % 2 ^ 32 : Nat) : Int) = ((a : Int) * 2 ^ k) % 4294967296 := by
    rw [Int.natCast_emod, Int.natCast_mul, Int.natCast_pow]
    rfl
  rw [e, Int.sub_mul]
  have e1 : ((a : Int) + 2147483648) % 4294967296 = (a : Int) + 2147483648 - 4294967296 * (((a : Int) + 2147483648) / 4294967296) := by omega
  rw [e1, Int.sub_mul, Int.add_mul]
  generalize (((a : Int) + 2147483648) / 4294967296) = t
  have e2 : 4294967296 * t * 2 ^ k = 4294967296 * (t * 2 ^ k) := by rw [Int.mul_assoc]
  rw [e2]
  generalize t * 2 ^ k = v
  generalize (a : Int) * 2 ^ k = w
  generalize (2147483648 : Int) * 2 ^ k = u
  omega
theorem zn_shr (x y : Int32) : (x >>> (y &&& 31)).toInt = zshr x.toInt y.toInt := by
  unfold zshr
  rw [pk_shr x (y &&& 31) _ (zn_amtk y), Int.shiftRight_eq_div_pow]
  simp
theorem zn_uamt (y : Int32) : ((y.toUInt32 &&& Int32.toUInt32 31).toBitVec % 32).toNat = (y.toInt % 32).toNat := by
  have h1 : (y.toUInt32 &&& Int32.toUInt32 31) = (y &&& 31).toUInt32 := rfl
  rw [h1, zn_amt y]
  have h : (y.toInt % 32).toNat < 32 := by omega
  generalize (y.toInt % 32).toNat = n at h
  revert n
  decide +kernel
theorem zn_ushr (x y : Int32) : (x.toUInt32 >>> (y.toUInt32 &&& Int32.toUInt32 31)).toInt32.toInt = zushr x.toInt y.toInt := by
  unfold zushr
  rw [zn_bv, pk_ushr x y _ (zn_uamt y)]
  have e : x.toInt % 4294967296 = (x.toBitVec.toNat : Int) := by
    rw [zn_bv x]
    have := x.toBitVec.isLt
    omega
  rw [e]
  unfold w32
  rw [Int.natCast_ediv, Int.natCast_pow]
  rfl
theorem zn_i2b (x : Int32) : x.toInt8.toInt32.toInt = w8 x.toInt := by
  rw [Int8.toInt_toInt32, Int32.toInt_toInt8, zn_w8]
theorem zn_i2s (x : Int32) : x.toInt16.toInt32.toInt = w16 x.toInt := by
  rw [Int16.toInt_toInt32, Int32.toInt_toInt16, zn_w16]
theorem zn_i2l (x : Int32) : x.toInt64.toInt = x.toInt := Int32.toInt_toInt64 x
theorem zn_l2i (x : Int64) : x.toInt32.toInt = w32 x.toInt := by rw [Int64.toInt_toInt32, zn_w32]
theorem zn_ladd (x y : Int64) : (x + y).toInt = w64 (x.toInt + y.toInt) := by rw [Int64.toInt_add, zn_w64]
theorem zn_lsub (x y : Int64) : (x - y).toInt = w64 (x.toInt - y.toInt) := by rw [Int64.toInt_sub, zn_w64]
theorem zn_lmul (x y : Int64) : (x * y).toInt = w64 (x.toInt * y.toInt) := by rw [Int64.toInt_mul, zn_w64]
theorem zn_lcmp (x y : Int64) : (lg_cmp x y).toInt = zcmp x.toInt y.toInt := by
  unfold lg_cmp zcmp
  by_cases h1 : x.toInt < y.toInt
  · rw [if_neg (by rw [gt_iff_lt, Int64.lt_iff_toInt_lt]; omega), if_neg (by rw [← Int64.toInt_inj]; omega), if_pos h1]
    rfl
  · by_cases h2 : x.toInt = y.toInt
    · rw [if_neg (by rw [gt_iff_lt, Int64.lt_iff_toInt_lt]; omega), if_pos (by rw [← Int64.toInt_inj]; exact h2), if_neg h1, if_pos h2]
      rfl
    · rw [if_pos (by rw [gt_iff_lt, Int64.lt_iff_toInt_lt]; omega), if_neg h1, if_neg h2]
      rfl
theorem zn_lt (x y : Int32) : x < y ↔ x.toInt < y.toInt := Int32.lt_iff_toInt_lt
theorem zn_eq (x y : Int32) : x = y ↔ x.toInt = y.toInt := Int32.toInt_inj.symm
theorem zn_lt0 (x : Int32) : x < 0 ↔ x.toInt < 0 := by rw [zn_lt]; rfl
theorem zn_0lt (x : Int32) : 0 < x ↔ 0 < x.toInt := by rw [zn_lt]; rfl
theorem zn_clamp {x : Int32} (h : 0 ≤ x.toInt) : x.toNatClampNeg = x.toInt.toNat := rfl
theorem zn_vpin {x : Int32} {n : Nat} (h : 0 ≤ x.toInt) (h2 : x.toInt < n) : vp_in x n := vp_in_iff.mpr ⟨h, h2⟩
theorem zn_bool {x : Int32} (h : x.toInt = 0 ∨ x.toInt = 1) : narrow .boolean (.int x) = .int x ∧ fits .boolean (.int x) = true := by
  rcases h with h | h
  · have : x = 0 := (zn_eq x 0).mpr (by rw [h]; rfl)
    subst this
    decide +kernel
  · have : x = 1 := (zn_eq x 1).mpr (by rw [h]; rfl)
    subst this
    decide +kernel
end
section
/-! THE TABLES OF THE LANDED CLASS, the reference and the law for the small machine: written by program (wip/whole/emit.py) out of the printed task. -/
def zR0 : String := "CupsAndPea$Eye"
def zT0 : u_T := fun k => match k with
  | 0 => ("CupsAndPea$Eye", "slip", "I", false)
  | _ => ("CupsAndPea$Eye", "begin", "I", false)
def zR1 : String := "CupsAndPea$Orders"
def zT1 : u_T := fun k => match k with
  | _ => ("CupsAndPea$Orders", "ways", "[I", true)
def zR2 : String := "CupsAndPea$Pass"
def zT2 : u_T := fun k => match k with
  | 0 => ("CupsAndPea$Pass", "kind", "I", false)
  | 1 => ("CupsAndPea$Pass", "a", "I", false)
  | _ => ("CupsAndPea$Pass", "b", "I", false)
def zR3 : String := "CupsAndPea$Playe\x72"
def zT3 : u_T := fun k => match k with
  | 0 => ("CupsAndPea$Playe\x72", "purse", "I", false)
  | 1 => ("CupsAndPea$Playe\x72", "stake", "I", false)
  | 2 => ("CupsAndPea$Playe\x72", "bears", "I", false)
  | _ => ("CupsAndPea$Playe\x72", "lost", "I", false)
def zR4 : String := "CupsAndPea$Search"
def zT4 : u_T := fun k => match k with
  | 0 => ("CupsAndPea$Search", "kind", "I", false)
  | 1 => ("CupsAndPea$Search", "slip", "I", false)
  | 2 => ("CupsAndPea$Search", "length", "I", false)
  | 3 => ("CupsAndPea$Search", "least", "J", false)
  | 4 => ("CupsAndPea$Search", "chosen", "[I", true)
  | 5 => ("CupsAndPea$Search", "first", "[I", true)
  | _ => ("CupsAndPea$Search", "more", "LCupsAndPea$Pass;", true)
def zR5 : String := "CupsAndPea$Sheet"
def zT5 : u_T := fun k => match k with
  | 0 => ("CupsAndPea$Sheet", "bits", "I", false)
  | 1 => ("CupsAndPea$Sheet", "size", "I", false)
  | _ => ("CupsAndPea$Sheet", "numbers", "[I", true)
def zR6 : String := "CupsAndPea$Sight"
def zT6 : u_T := fun k => match k with
  | _ => ("CupsAndPea$Sight", "weights", "[[J", true)
def zR7 : String := "CupsAndPea$Table"
def zT7 : u_T := fun k => match k with
  | 0 => ("CupsAndPea$Table", "cups", "I", false)
  | 1 => ("CupsAndPea$Table", "begin", "I", false)
  | 2 => ("CupsAndPea$Table", "size", "I", false)
  | 3 => ("CupsAndPea$Table", "taken", "I", false)
  | 4 => ("CupsAndPea$Table", "z", "I", false)
  | 5 => ("CupsAndPea$Table", "passes", "[LCupsAndPea$Pass;", true)
  | 6 => ("CupsAndPea$Table", "eyes", "[LCupsAndPea$Eye;", true)
  | 7 => ("CupsAndPea$Table", "players", "[LCupsAndPea$Player;", true)
  | _ => ("CupsAndPea$Table", "spots", "[I", true)
def zR8 : String := "CupsAndPea$Tape"
def zT8 : u_T := fun k => match k with
  | 0 => ("CupsAndPea$Tape", "bytes", "[B", true)
  | 1 => ("CupsAndPea$Tape", "size", "I", false)
  | 2 => ("CupsAndPea$Tape", "sort", "I", false)
  | 3 => ("CupsAndPea$Tape", "start", "I", false)
  | 4 => ("CupsAndPea$Tape", "stop", "I", false)
  | _ => ("CupsAndPea$Tape", "numbe\x72", "I", false)
def zR9 : String := "CupsAndPea"
def zT9 : u_T := fun k => match k with
  | 0 => ("CupsAndPea", "table", "LCupsAndPea$Table;", true)
  | 1 => ("CupsAndPea", "kept", "LCupsAndPea$Table;", true)
  | 2 => ("CupsAndPea", "draft", "LCupsAndPea$Table;", true)
  | 3 => ("CupsAndPea", "isKept", "Z", false)
  | 4 => ("CupsAndPea", "sight", "LCupsAndPea$Sight;", true)
  | 5 => ("CupsAndPea", "otherSight", "LCupsAndPea$Sight;", true)
  | 6 => ("CupsAndPea", "search", "LCupsAndPea$Search;", true)
  | 7 => ("CupsAndPea", "orderings", "LCupsAndPea$Orders;", true)
  | 8 => ("CupsAndPea", "tape", "LCupsAndPea$Tape;", true)
  | 9 => ("CupsAndPea", "sheets", "[LCupsAndPea$Sheet;", true)
  | _ => ("CupsAndPea", "findings", "[I", true)
def zR10 : String := "CupsAndPeaModel"
def zT10 : u_T := fun k => match k with
  | 0 => ("CupsAndPeaModel", "d", "[I", true)
  | 1 => ("CupsAndPeaModel", "e", "[I", true)
  | 2 => ("CupsAndPeaModel", "kept", "[I", true)
  | 3 => ("CupsAndPeaModel", "isKept", "Z", false)
  | 4 => ("CupsAndPeaModel", "found", "[I", true)
  | 5 => ("CupsAndPeaModel", "tape", "[B", true)
  | 6 => ("CupsAndPeaModel", "taped", "I", false)
  | 7 => ("CupsAndPeaModel", "weights", "[J", true)
  | 8 => ("CupsAndPeaModel", "spare", "[J", true)
  | 9 => ("CupsAndPeaModel", "bases", "[J", true)
  | 10 => ("CupsAndPeaModel", "pairA", "[I", true)
  | 11 => ("CupsAndPeaModel", "pairB", "[I", true)
  | 12 => ("CupsAndPeaModel", "pairs", "I", false)
  | 13 => ("CupsAndPeaModel", "leastRight", "J", false)
  | 14 => ("CupsAndPeaModel", "leastRow", "I", false)
  | 15 => ("CupsAndPeaModel", "fitting", "I", false)
  | 16 => ("CupsAndPeaModel", "firstSet", "I", false)
  | 17 => ("CupsAndPeaModel", "inAll", "I", false)
  | 18 => ("CupsAndPeaModel", "inAny", "I", false)
  | 19 => ("CupsAndPeaModel", "ways", "[I", true)
  | 20 => ("CupsAndPeaModel", "byLoss", "I", false)
  | 21 => ("CupsAndPeaModel", "byWin", "I", false)
  | 22 => ("CupsAndPeaModel", "at", "I", false)
  | 23 => ("CupsAndPeaModel", "sort", "I", false)
  | 24 => ("CupsAndPeaModel", "from", "I", false)
  | 25 => ("CupsAndPeaModel", "value", "J", false)
  | 26 => ("CupsAndPeaModel", "fault", "I", false)
  | 27 => ("CupsAndPeaModel", "bitsOf", "[I", true)
  | 28 => ("CupsAndPeaModel", "sizeOf", "[I", true)
  | 29 => ("CupsAndPeaModel", "numbe\x72", "[I", true)
  | _ => ("CupsAndPeaModel", "passing", "[I", true)
def zR11 : String := "CupsAndPeaLaw"
abbrev zcl : List vw_C := [(zR0, zT0, 2), (zR1, zT1, 1), (zR2, zT2, 3), (zR3, zT3, 4), (zR4, zT4, 7), (zR5, zT5, 3), (zR6, zT6, 1), (zR7, zT7, 9), (zR8, zT8, 6), (zR9, zT9, 11), (zR10, zT10, 31)]
/-- a class's name -/
def znm (c : Nat) : String := match c with
  | 0 => "CupsAndPea$Eye"
  | 1 => "CupsAndPea$Orders"
  | 2 => "CupsAndPea$Pass"
  | 3 => "CupsAndPea$Playe\x72"
  | 4 => "CupsAndPea$Search"
  | 5 => "CupsAndPea$Sheet"
  | 6 => "CupsAndPea$Sight"
  | 7 => "CupsAndPea$Table"
  | 8 => "CupsAndPea$Tape"
  | 9 => "CupsAndPea"
  | 10 => "CupsAndPeaModel"
  | _ => "CupsAndPeaLaw"
/-- the fields of class c -/
def zTT (c : Nat) : u_T := match c with
  | 0 => zT0
  | 1 => zT1
  | 2 => zT2
  | 3 => zT3
  | 4 => zT4
  | 5 => zT5
  | 6 => zT6
  | 7 => zT7
  | 8 => zT8
  | 9 => zT9
  | _ => zT10
def znf (c : Nat) : Nat := match c with
  | 0 => 2
  | 1 => 1
  | 2 => 3
  | 3 => 4
  | 4 => 7
  | 5 => 3
  | 6 => 1
  | 7 => 9
  | 8 => 6
  | 9 => 11
  | _ => 31
/-- the type of a field of class c -/
def zty (c : Nat) : Nat → FieldType := fun k => match c with
  | 0 => (match k with
    | 0 => .int
    | _ => .int)
  | 1 => (match k with
    | _ => .array .int)
  | 2 => (match k with
    | 0 => .int
    | 1 => .int
    | _ => .int)
  | 3 => (match k with
    | 0 => .int
    | 1 => .int
    | 2 => .int
    | _ => .int)
  | 4 => (match k with
    | 0 => .int
    | 1 => .int
    | 2 => .int
    | 3 => .long
    | 4 => .array .int
    | 5 => .array .int
    | _ => .object "CupsAndPea$Pass")
  | 5 => (match k with
    | 0 => .int
    | 1 => .int
    | _ => .array .int)
  | 6 => (match k with
    | _ => .array (.array .long))
  | 7 => (match k with
    | 0 => .int
    | 1 => .int
    | 2 => .int
    | 3 => .int
    | 4 => .int
    | 5 => .array (.object "CupsAndPea$Pass")
    | 6 => .array (.object "CupsAndPea$Eye")
    | 7 => .array (.object "CupsAndPea$Playe\x72")
    | _ => .array .int)
  | 8 => (match k with
    | 0 => .array .byte
    | 1 => .int
    | 2 => .int
    | 3 => .int
    | 4 => .int
    | _ => .int)
  | 9 => (match k with
    | 0 => .object "CupsAndPea$Table"
    | 1 => .object "CupsAndPea$Table"
    | 2 => .object "CupsAndPea$Table"
    | 3 => .boolean
    | 4 => .object "CupsAndPea$Sight"
    | 5 => .object "CupsAndPea$Sight"
    | 6 => .object "CupsAndPea$Search"
    | 7 => .object "CupsAndPea$Orders"
    | 8 => .object "CupsAndPea$Tape"
    | 9 => .array (.object "CupsAndPea$Sheet")
    | _ => .array .int)
  | _ => (match k with
    | 0 => .array .int
    | 1 => .array .int
    | 2 => .array .int
    | 3 => .boolean
    | 4 => .array .int
    | 5 => .array .byte
    | 6 => .int
    | 7 => .array .long
    | 8 => .array .long
    | 9 => .array .long
    | 10 => .array .int
    | 11 => .array .int
    | 12 => .int
    | 13 => .long
    | 14 => .int
    | 15 => .int
    | 16 => .int
    | 17 => .int
    | 18 => .int
    | 19 => .array .int
    | 20 => .int
    | 21 => .int
    | 22 => .int
    | 23 => .int
    | 24 => .int
    | 25 => .long
    | 26 => .int
    | 27 => .array .int
    | 28 => .array .int
    | 29 => .array .int
    | _ => .array .int)
/-- the row of a field by its number -/
def zfT (n : Nat) : String × (String × (String × Bool)) := zTT (n / 256) (n / 4 % 64)
/-- the pool of each class, resolved: (class, (number, (step, place in lw_tbl))) -/
def zpool_0 : List (Nat × (Nat × (Instr × Nat))) := [(0, (1, (.nop, 129))), (0, (7, (.getfield 0, 130))), (0, (13, (.getfield 4, 136))), (1, (3, (.nop, 270))), (1, (9, (.getfield 259, 271))), (1, (15, (.getfield 1800, 178))), (1, (21, (.fadd, 618))), (1, (27, (.getfield 1796, 174))), (1, (30, (.invokestatic 4098, 619))), (1, (33, (.getfield 1792, 169))), (1, (36, (.invokevirtual 3092, 622))), (1, (40, (.getfield 1815, 189))), (1, (44, (.invokevirtual 11298, 626))), (2, (3, (.nop, 106))), (2, (9, (.getfield 512, 107))), (2, (15, (.getfield 516, 110))), (2, (18, (.getfield 520, 114))), (2, (21, (.invokevirtual 7201, 413))), (2, (25, (.invokevirtual 10274, 446))), (2, (29, (.invokestatic 140291, 450))), (2, (33, (.invokevirtual 9250, 442))), (2, (36, (.fadd, 482))), (3, (3, (.nop, 149))), (3, (9, (.getfield 768, 150))), (3, (15, (.getfield 772, 152))), (3, (18, (.getfield 776, 154))), (3, (21, (.getfield 780, 156))), (3, (24, (.invokevirtual 17457, 642))), (3, (28, (.invokestatic 20483, 646))), (3, (32, (.fadd, 670))), (3, (38, (.invokestatic 21505, 671))), (3, (42, (.invokestatic 22529, 674))), (3, (45, (.invokestatic 23557, 695))), (3, (49, (.fsub, 677))), (3, (52, (.invokestatic 24580, 698))), (3, (56, (.invokestatic 25605, 701))), (4, (3, (.nop, 238))), (4, (9, (.getfield 1024, 241))), (4, (15, (.getfield 1028, 242))), (4, (18, (.getfield 1032, 243))), (4, (21, (.getfield 1037, 244))), (4, (25, (.getfield 1043, 246))), (4, (29, (.getfield 1047, 247))), (4, (32, (.new 515, 239))), (4, (34, (.invokespecial 5153, 240))), (4, (35, (.getfield 1051, 249))), (4, (39, (.sipush (1000000000000000), 565))), (4, (41, (.invokevirtual 6180, 566))), (4, (45, (.getfield 1819, 193))), (4, (51, (.getfield 0, 131))), (4, (54, (.invokevirtual 12322, 567))), (4, (58, (.invokevirtual 35940, 568))), (4, (64, (.getfield 1800, 181))), (4, (67, (.invokevirtual 46194, 569))), (4, (70, (.invokestatic 28677, 570))), (4, (74, (.getfield 1792, 171))), (4, (77, (.invokevirtual 11298, 573))), (4, (78, (.invokestatic 29701, 574))), (4, (81, (.invokevirtual 36965, 577))), (4, (85, (.invokevirtual 37990, 578)))]
def zpool_1 : List (Nat × (Nat × (Instr × Nat))) := [(4, (89, (.swap, 579))), (5, (3, (.nop, 308))), (5, (9, (.getfield 1280, 309))), (5, (15, (.getfield 1284, 311))), (5, (18, (.getfield 1291, 313))), (6, (3, (.nop, 225))), (6, (9, (.multianewarray 0 2, 226))), (6, (11, (.getfield 1539, 228))), (6, (16, (.getfield 1819, 192))), (6, (22, (.getfield 4, 137))), (6, (28, (.getfield 1800, 180))), (6, (31, (.getfield 1815, 188))), (6, (35, (.getfield 0, 132))), (6, (38, (.invokevirtual 12322, 478))), (6, (44, (.getfield 1792, 170))), (6, (47, (.invokevirtual 36965, 485))), (6, (51, (.invokevirtual 37990, 489))), (6, (55, (.getfield 516, 112))), (6, (58, (.invokevirtual 8225, 493))), (6, (62, (.invokestatic 141314, 494))), (6, (66, (.invokestatic 140291, 497))), (7, (3, (.nop, 95))), (7, (9, (.getfield 1792, 167))), (7, (15, (.getfield 1796, 173))), (7, (18, (.getfield 1800, 177))), (7, (21, (.getfield 1804, 183))), (7, (24, (.getfield 1808, 185))), (7, (27, (.new 515, 96))), (7, (29, (.getfield 1815, 187))), (7, (33, (.new 2, 98))), (7, (35, (.getfield 1819, 191))), (7, (39, (.new 772, 100))), (7, (41, (.getfield 1823, 196))), (7, (45, (.getfield 1827, 199))), (7, (49, (.invokespecial 5153, 103))), (7, (50, (.invokespecial 1, 126))), (7, (51, (.invokespecial 13361, 146))), (7, (52, (.getfield 512, 108))), (7, (55, (.getfield 516, 111))), (7, (58, (.getfield 520, 115))), (7, (61, (.invokevirtual 6180, 397))), (7, (65, (.getfield 0, 133))), (7, (68, (.getfield 4, 138))), (7, (69, (.invokevirtual 16434, 756))), (7, (73, (.swap, 760))), (7, (79, (.invokevirtual 11298, 438))), (7, (83, (.fadd, 594))), (7, (89, (.invokevirtual 18482, 666))), (7, (93, (.invokevirtual 17457, 722))), (7, (97, (.iconst (1103515245), 731))), (7, (98, (.invokevirtual 14386, 954))), (8, (3, (.nop, 280))), (8, (9, (.getfield 2051, 281))), (8, (15, (.getfield 2052, 282))), (8, (19, (.getfield 2056, 284))), (8, (22, (.getfield 2060, 285))), (8, (25, (.getfield 2064, 286))), (8, (28, (.getfield 2068, 287))), (8, (31, (.invokevirtual 68737, 765))), (8, (34, (.invokevirtual 58498, 774)))]
def zpool_2 : List (Nat × (Nat × (Instr × Nat))) := [(8, (38, (.invokevirtual 59521, 778))), (8, (42, (.invokevirtual 61571, 844))), (8, (46, (.ldc 11, 854))), (8, (48, (.invokevirtual 67714, 792))), (8, (52, (.invokevirtual 62594, 855))), (8, (55, (.ldc 13, 860))), (8, (57, (.invokevirtual 63618, 861))), (8, (60, (.ldc 15, 866))), (8, (62, (.invokevirtual 64642, 867))), (8, (65, (.invokestatic 60417, 782))), (8, (69, (.ldc 4, 785))), (8, (71, (.ldc 5, 786))), (8, (73, (.ldc 6, 787))), (8, (75, (.ldc 7, 788))), (8, (77, (.ldc 8, 789))), (8, (79, (.ldc 9, 790))), (8, (81, (.ldc 10, 791))), (8, (83, (.getfield 1800, 182))), (8, (86, (.getfield 1792, 172))), (8, (89, (.invokevirtual 66691, 848))), (8, (93, (.invokevirtual 45172, 853))), (8, (97, (.ldc 12, 859))), (8, (99, (.getfield 1796, 176))), (8, (102, (.ldc 14, 865))), (8, (104, (.getfield 1819, 194))), (8, (108, (.getfield 0, 134))), (8, (112, (.invokestatic 65537, 871))), (8, (115, (.getstatic 2, 877))), (8, (119, (.getstatic 3, 878))), (8, (122, (.getfield 1823, 197))), (8, (126, (.invokevirtual 15411, 879))), (8, (132, (.ldc 16, 874))), (8, (134, (.ldc 17, 875))), (8, (136, (.ldc 18, 876))), (8, (138, (.invokestatic 137219, 852))), (8, (142, (.dadd, 796))), (8, (147, (.dsub, 806))), (8, (151, (.invokevirtual 69762, 769))), (8, (155, (.fadd, 773))), (9, (1, (.nop, 87))), (9, (7, (.new 1801, 90))), (9, (9, (.invokespecial 42097, 92))), (9, (10, (.getfield 2307, 322))), (9, (16, (.getfield 2311, 323))), (9, (19, (.getfield 2315, 324))), (9, (22, (.getfield 2318, 325))), (9, (26, (.new 1537, 220))), (9, (28, (.invokespecial 34913, 222))), (9, (29, (.getfield 2323, 326))), (9, (33, (.getfield 2327, 327))), (9, (36, (.new 1031, 233))), (9, (38, (.invokespecial 26689, 235))), (9, (39, (.getfield 2331, 328))), (9, (43, (.new 257, 265))), (9, (45, (.invokespecial 1041, 267))), (9, (46, (.getfield 2335, 329))), (9, (50, (.new 2054, 275))), (9, (52, (.invokespecial 55425, 277))), (9, (53, (.getfield 2339, 330))), (9, (57, (.new 1283, 302)))]
def zpool_3 : List (Nat × (Nat × (Instr × Nat))) := [(9, (59, (.getfield 2343, 331))), (9, (63, (.getfield 2347, 332))), (9, (67, (.invokespecial 30801, 305))), (9, (68, (.invokestatic 137219, 360))), (9, (72, (.iconst (-1000001), 363))), (9, (73, (.invokevirtual 123026, 364))), (9, (77, (.getfield 1800, 179))), (9, (81, (.iconst (-1000005), 368))), (9, (82, (.getfield 1792, 168))), (9, (85, (.invokevirtual 44146, 369))), (9, (89, (.invokevirtual 128146, 377))), (9, (93, (.getfield 1796, 175))), (9, (96, (.invokestatic 131073, 389))), (9, (99, (.invokevirtual 127122, 381))), (9, (102, (.iconst (-1000002), 392))), (9, (103, (.invokevirtual 45172, 393))), (9, (107, (.invokevirtual 129170, 405))), (9, (110, (.getfield 1815, 190))), (9, (114, (.getfield 512, 109))), (9, (119, (.getfield 516, 113))), (9, (122, (.getfield 520, 116))), (9, (125, (.invokevirtual 8225, 409))), (9, (129, (.iconst (-1000004), 425))), (9, (130, (.invokevirtual 130194, 430))), (9, (133, (.invokevirtual 46194, 434))), (9, (136, (.invokevirtual 9250, 457))), (9, (139, (.invokevirtual 11298, 462))), (9, (140, (.invokestatic 132097, 467))), (9, (143, (.getfield 1819, 195))), (9, (147, (.getfield 0, 135))), (9, (152, (.getfield 4, 139))), (9, (153, (.invokevirtual 35940, 474))), (9, (157, (.invokevirtual 39011, 498))), (9, (161, (.invokevirtual 124050, 506))), (9, (164, (.invokevirtual 125075, 518))), (9, (167, (.invokevirtual 40034, 510))), (9, (168, (.iconst (-1000007), 530))), (9, (169, (.invokevirtual 41059, 531))), (9, (173, (.sipush (-1), 543))), (9, (175, (.sipush (1000000000000000), 548))), (9, (177, (.invokevirtual 126100, 549))), (9, (181, (.invokevirtual 27718, 561))), (9, (185, (.getfield 1037, 245))), (9, (189, (.getfield 1047, 248))), (9, (192, (.invokevirtual 47217, 590))), (9, (195, (.invokevirtual 48242, 595))), (9, (198, (.invokestatic 139265, 607))), (9, (201, (.invokevirtual 2067, 614))), (9, (205, (.invokestatic 133121, 631))), (9, (208, (.getstatic 2, 634))), (9, (211, (.getstatic 3, 636))), (9, (214, (.getfield 1823, 198))), (9, (218, (.invokevirtual 14386, 638))), (9, (223, (.invokevirtual 15411, 649))), (9, (227, (.invokevirtual 17457, 661))), (9, (231, (.invokevirtual 49267, 662))), (9, (235, (.invokestatic 134145, 688))), (9, (238, (.invokevirtual 19506, 691))), (9, (241, (.getfield 768, 151))), (9, (244, (.getfield 772, 153)))]
def zpool_4 : List (Nat × (Nat × (Instr × Nat))) := [(9, (247, (.getfield 776, 155))), (9, (250, (.invokestatic 24580, 708))), (9, (254, (.getfield 780, 157))), (9, (257, (.invokestatic 25605, 709))), (9, (261, (.getfield 1804, 184))), (9, (264, (.invokevirtual 50289, 718))), (9, (267, (.invokevirtual 51314, 727))), (9, (270, (.getfield 1808, 186))), (9, (273, (.getfield 2052, 283))), (9, (274, (.invokevirtual 56450, 740))), (9, (277, (.invokevirtual 43122, 752))), (9, (280, (.invokevirtual 57474, 761))), (9, (284, (.getfield 1827, 200))), (9, (287, (.iconst (-1000006), 888))), (9, (288, (.invokestatic 138242, 889))), (9, (292, (.iconst (-1000003), 894))), (9, (293, (.invokestatic 135169, 899))), (9, (296, (.invokestatic 136193, 902))), (9, (299, (.invokevirtual 31827, 905))), (9, (302, (.getfield 1284, 312))), (9, (303, (.getfield 1280, 310))), (9, (306, (.invokevirtual 32851, 913))), (9, (308, (.invokevirtual 33875, 921))), (9, (311, (.getfield 1291, 314))), (9, (314, (.swap, 925))), (9, (320, (.invokevirtual 52338, 950))), (9, (323, (.invokevirtual 53361, 955))), (9, (326, (.invokevirtual 54385, 959))), (9, (329, (.getstatic 1, 892))), (10, (1, (.nop, 972))), (10, (7, (.getfield 2563, 973))), (10, (13, (.getfield 2567, 974))), (10, (16, (.getfield 2571, 975))), (10, (19, (.getfield 2579, 977))), (10, (22, (.getfield 2583, 978))), (10, (26, (.getfield 2591, 980))), (10, (30, (.getfield 2595, 981))), (10, (33, (.getfield 2599, 982))), (10, (36, (.getfield 2603, 983))), (10, (39, (.getfield 2607, 984))), (10, (42, (.getfield 2639, 992))), (10, (45, (.getfield 2671, 1000))), (10, (48, (.getfield 2675, 1001))), (10, (51, (.getfield 2679, 1002))), (10, (54, (.getfield 2683, 1003))), (10, (57, (.iconst (-1000001), 1080))), (10, (58, (.invokestatic 144387, 1073))), (10, (62, (.sipush (3), 1071))), (10, (64, (.invokestatic 150530, 1114))), (10, (68, (.invokestatic 151555, 1139))), (10, (72, (.invokestatic 152580, 1136))), (10, (76, (.invokevirtual 149667, 1106))), (10, (79, (.sipush (6), 1072))), (10, (81, (.invokevirtual 143522, 1076))), (10, (85, (.sipush (-1), 1085))), (10, (87, (.invokevirtual 146594, 1090))), (10, (91, (.invokevirtual 157860, 1094))), (10, (94, (.invokevirtual 147618, 1102))), (10, (97, (.invokevirtual 154786, 1110))), (10, (100, (.invokestatic 153604, 1133)))]
def zpool_5 : List (Nat × (Nat × (Instr × Nat))) := [(10, (103, (.invokevirtual 162978, 1129))), (10, (106, (.invokevirtual 168098, 1166))), (10, (110, (.invokevirtual 167075, 1170))), (10, (113, (.invokevirtual 169124, 1174))), (10, (117, (.invokestatic 148481, 1154))), (10, (120, (.sipush (10), 1157))), (10, (122, (.invokevirtual 170148, 1162))), (10, (125, (.invokevirtual 171169, 1186))), (10, (129, (.invokevirtual 174243, 1182))), (10, (132, (.invokevirtual 176290, 1198))), (10, (136, (.invokevirtual 177315, 1194))), (10, (140, (.invokevirtual 183460, 1222))), (10, (144, (.getfield 2608, 985))), (10, (148, (.invokevirtual 186529, 1243))), (10, (151, (.getfield 2616, 987))), (10, (154, (.invokevirtual 187556, 1247))), (10, (157, (.getfield 2613, 986))), (10, (161, (.sipush (4), 1238))), (10, (163, (.invokevirtual 189604, 1234))), (10, (166, (.invokevirtual 188580, 1239))), (10, (169, (.getfield 2620, 988))), (10, (172, (.getfield 2624, 989))), (10, (175, (.getfield 2628, 990))), (10, (178, (.getfield 2632, 991))), (10, (181, (.invokevirtual 193698, 1259))), (10, (184, (.invokevirtual 192674, 1263))), (10, (187, (.sipush (2), 1271))), (10, (189, (.invokestatic 196609, 1276))), (10, (192, (.invokevirtual 199843, 1290))), (10, (195, (.sipush (9999), 1287))), (10, (197, (.sipush (99), 1288))), (10, (199, (.sipush (9), 1289))), (10, (201, (.invokevirtual 200868, 1294))), (10, (204, (.invokevirtual 201890, 1302))), (10, (207, (.invokevirtual 204963, 1310))), (10, (211, (.getfield 2640, 993))), (10, (214, (.getfield 2644, 994))), (10, (217, (.invokestatic 145410, 1330))), (10, (221, (.invokevirtual 208035, 1326))), (10, (225, (.invokevirtual 209059, 1322))), (10, (228, (.iconst (1103515245), 1354))), (10, (229, (.sipush (12), 1349))), (10, (231, (.invokevirtual 214177, 1350))), (10, (234, (.getfield 2584, 979))), (10, (237, (.getfield 2648, 995))), (10, (240, (.invokevirtual 221346, 1379))), (10, (243, (.getfield 2656, 997))), (10, (246, (.getfield 2661, 998))), (10, (249, (.getfield 2652, 996))), (10, (252, (.invokestatic 219137, 1383))), (10, (255, (.sipush (100000000000000000), 1386))), (10, (257, (.sipush (27), 1387))), (10, (259, (.invokestatic 220161, 1388))), (10, (262, (.sipush (48), 1391))), (10, (264, (.getfield 2664, 999))), (10, (267, (.sipush (316189), 1400))), (10, (269, (.invokevirtual 224418, 1401))), (10, (273, (.sipush (3294020), 1405))), (10, (275, (.sipush (242939), 1406))), (10, (277, (.sipush (92275), 1407)))]
def zpool_6 : List (Nat × (Nat × (Instr × Nat))) := [(10, (279, (.sipush (12387666), 1408))), (10, (281, (.sipush (383153), 1409))), (10, (283, (.sipush (9454493), 1410))), (10, (285, (.invokevirtual 223393, 1415))), (10, (288, (.invokevirtual 222369, 1375))), (10, (291, (.invokevirtual 226467, 1419))), (10, (294, (.sipush (158575), 1428))), (10, (296, (.sipush (382984), 1434))), (10, (298, (.sipush (8930039), 1440))), (10, (300, (.sipush (10492070), 1441))), (10, (302, (.sipush (1162531), 1442))), (10, (304, (.invokevirtual 225441, 1396))), (10, (307, (.invokevirtual 227490, 1411))), (10, (310, (.sipush (11800), 1423))), (10, (312, (.invokevirtual 228513, 1424))), (10, (315, (.sipush (4325), 1429))), (10, (317, (.invokevirtual 229537, 1430))), (10, (320, (.sipush (235997865), 1435))), (10, (322, (.invokevirtual 230561, 1436))), (10, (325, (.invokevirtual 231585, 1392))), (10, (328, (.invokevirtual 232609, 1371))), (10, (331, (.invokestatic 235521, 1451))), (10, (334, (.invokestatic 237569, 1458))), (10, (337, (.invokevirtual 239778, 1465))), (10, (340, (.getfield 2574, 976))), (10, (344, (.invokevirtual 247971, 1497))), (10, (347, (.invokevirtual 248993, 1501))), (11, (7, (.new 2315, 82))), (11, (9, (.invokespecial 70801, 84))), (11, (10, (.new 2591, 967))), (11, (12, (.invokespecial 142497, 969))), (11, (13, (.invokevirtual 71826, 356))), (11, (17, (.invokevirtual 155810, 1067))), (11, (18, (.invokevirtual 72850, 373))), (11, (21, (.invokevirtual 156834, 1081))), (11, (22, (.invokevirtual 73876, 385))), (11, (26, (.invokevirtual 158884, 1086))), (11, (27, (.invokevirtual 74899, 401))), (11, (31, (.invokevirtual 159907, 1098))), (11, (32, (.invokevirtual 75923, 417))), (11, (35, (.invokevirtual 160931, 1117))), (11, (36, (.invokevirtual 76945, 421))), (11, (40, (.invokevirtual 161953, 1121))), (11, (41, (.invokevirtual 77970, 426))), (11, (44, (.invokevirtual 164002, 1125))), (11, (45, (.invokevirtual 78995, 453))), (11, (48, (.invokevirtual 165027, 1142))), (11, (49, (.invokevirtual 80017, 458))), (11, (52, (.invokevirtual 166049, 1146))), (11, (53, (.invokevirtual 81044, 463))), (11, (56, (.invokevirtual 172196, 1150))), (11, (57, (.invokevirtual 82068, 470))), (11, (61, (.invokevirtual 173220, 1158))), (11, (62, (.invokevirtual 83090, 502))), (11, (65, (.invokevirtual 175266, 1178))), (11, (66, (.invokevirtual 84114, 514))), (11, (70, (.invokevirtual 178338, 1190))), (11, (71, (.invokevirtual 85138, 522))), (11, (74, (.invokevirtual 179362, 1202))), (11, (75, (.invokevirtual 86163, 526)))]
def zpool_7 : List (Nat × (Nat × (Instr × Nat))) := [(11, (78, (.invokevirtual 180387, 1206))), (11, (79, (.invokevirtual 87186, 535))), (11, (82, (.invokevirtual 181410, 1210))), (11, (83, (.invokevirtual 88210, 539))), (11, (86, (.invokevirtual 182434, 1214))), (11, (87, (.invokevirtual 89234, 544))), (11, (90, (.invokevirtual 184482, 1218))), (11, (91, (.invokevirtual 90259, 553))), (11, (94, (.invokevirtual 185507, 1226))), (11, (95, (.invokevirtual 91284, 557))), (11, (98, (.invokevirtual 190628, 1230))), (11, (99, (.invokevirtual 92309, 582))), (11, (103, (.invokevirtual 191653, 1251))), (11, (104, (.invokevirtual 93330, 586))), (11, (107, (.invokevirtual 194722, 1255))), (11, (108, (.invokevirtual 94355, 599))), (11, (111, (.invokevirtual 195747, 1267))), (11, (112, (.invokevirtual 95377, 603))), (11, (115, (.invokevirtual 197793, 1272))), (11, (116, (.invokevirtual 96402, 610))), (11, (119, (.invokevirtual 198818, 1279))), (11, (120, (.invokevirtual 97428, 627))), (11, (123, (.invokevirtual 202916, 1283))), (11, (124, (.invokevirtual 98451, 653))), (11, (127, (.invokevirtual 203939, 1298))), (11, (128, (.invokevirtual 99475, 657))), (11, (131, (.invokevirtual 205987, 1306))), (11, (132, (.invokevirtual 100499, 680))), (11, (135, (.invokevirtual 207011, 1314))), (11, (136, (.invokevirtual 101523, 684))), (11, (139, (.invokevirtual 210083, 1318))), (11, (140, (.invokevirtual 102547, 704))), (11, (143, (.invokevirtual 211107, 1333))), (11, (144, (.invokevirtual 103570, 710))), (11, (147, (.invokevirtual 212130, 1337))), (11, (148, (.invokevirtual 104594, 714))), (11, (151, (.invokevirtual 213154, 1341))), (11, (152, (.invokevirtual 105618, 723))), (11, (155, (.invokevirtual 215202, 1345))), (11, (156, (.invokevirtual 106642, 732))), (11, (159, (.invokevirtual 216226, 1355))), (11, (160, (.invokevirtual 107667, 736))), (11, (163, (.invokevirtual 217251, 1359))), (11, (164, (.invokevirtual 108689, 744))), (11, (167, (.invokevirtual 218273, 1363))), (11, (168, (.invokevirtual 109713, 748))), (11, (171, (.invokevirtual 233633, 1367))), (11, (172, (.invokevirtual 110739, 880))), (11, (175, (.invokevirtual 234659, 1443))), (11, (176, (.invokevirtual 111763, 884))), (11, (179, (.invokevirtual 236707, 1447))), (11, (180, (.invokevirtual 112788, 895))), (11, (183, (.invokevirtual 238756, 1454))), (11, (184, (.invokevirtual 113812, 909))), (11, (187, (.invokevirtual 240804, 1461))), (11, (188, (.invokevirtual 114838, 917))), (11, (192, (.invokevirtual 241830, 1469))), (11, (193, (.invokevirtual 115858, 926))), (11, (196, (.invokevirtual 242850, 1473))), (11, (197, (.invokevirtual 116882, 930)))]
def zpool_8 : List (Nat × (Nat × (Instr × Nat))) := [(11, (200, (.invokevirtual 243874, 1477))), (11, (201, (.invokevirtual 117905, 934))), (11, (204, (.invokevirtual 244897, 1481))), (11, (205, (.invokevirtual 118929, 938))), (11, (208, (.invokevirtual 245921, 1485))), (11, (209, (.invokevirtual 119953, 942))), (11, (212, (.invokevirtual 246945, 1489))), (11, (213, (.invokevirtual 120978, 946))), (11, (216, (.invokevirtual 250018, 1493))), (11, (217, (.invokevirtual 122002, 963))), (11, (220, (.invokevirtual 251042, 1505)))]
def zpool : List (Nat × (Nat × (Instr × Nat))) := zpool_0 ++ (zpool_1 ++ (zpool_2 ++ (zpool_3 ++ (zpool_4 ++ (zpool_5 ++ (zpool_6 ++ (zpool_7 ++ (zpool_8))))))))
def zplook : List (Nat × (Nat × (Instr × Nat))) → Nat → Nat → Option Instr
  | [], _, _ => none
  | (o, (j, (i, _))) :: l, own, ix => match Nat.beq o own && Nat.beq j ix with
    | true => some i
    | false => zplook l own ix
/-- an instruction of class own (whose method answers a boolean or not), made a small step -/
def znorm (own : Nat) (md : Nat) (pc : Nat) : Instr → Option Instr
  | .iconst n => if -1 ≤ n ∧ n ≤ 5 then some (.iconst n) else none
  | .bipush n => if -128 ≤ n ∧ n < 128 then some (.iconst n) else none
  | .sipush n => if -32768 ≤ n ∧ n < 32768 then some (.iconst n) else none
  | .lconst n => some (.sipush ((n : Nat) : Int))
  | .ldc i => match zplook zpool own i with
    | some (.iconst n) => some (.iconst n)
    | some (.ldc j) => some (.ldc j)
    | _ => none
  | .ldc_w i => match zplook zpool own i with
    | some (.iconst n) => some (.iconst n)
    | _ => none
  | .ldc2_w i => match zplook zpool own i with
    | some (.sipush n) => some (.sipush n)
    | _ => none
  | .iload i => some (.iload i)
  | .iload_n i => some (.iload i)
  | .lload i => some (.lload i)
  | .lload_n i => some (.lload i)
  | .aload i => some (.aload i)
  | .aload_n i => some (.aload i)
  | .istore i => some (.istore i)
  | .istore_n i => some (.istore i)
  | .lstore i => some (.lstore i)
  | .lstore_n i => some (.lstore i)
  | .astore i => some (.astore i)
  | .astore_n i => some (.astore i)
  | .ifCond c o => if 0 ≤ pc + o then some (.ifCond c (pc + o)) else none
  | .if_icmp c o => if 0 ≤ pc + o then some (.if_icmp c (pc + o)) else none
  | .goto o => if 0 ≤ pc + o then some (.goto (pc + o)) else none
  | .tableswitch d lo hi ts => if 0 ≤ pc + d ∧ ts.toList.all (fun o => decide (0 ≤ pc + o)) = true then some (.tableswitch (pc + d) lo hi ⟨ts.toList.map (fun o => pc + o)⟩) else none
  | .lookupswitch d ps => if 0 ≤ pc + d ∧ ps.toList.all (fun q => decide (0 ≤ pc + q.2)) = true ∧ (ps.toList.zip (ps.toList.drop 1)).all (fun (a, next) => a.1 < next.1) = true then some (.lookupswitch (pc + d) ⟨ps.toList.map (fun q => (q.1, pc + q.2))⟩) else none
  | .getfield i => match zplook zpool own i with
    | some (.getfield n) => some (.getfield n)
    | _ => none
  | .putfield i => match zplook zpool own i with
    | some (.getfield n) => if (zfT n).2.2.2 = false ∨ (md = 2 ∧ (zfT n).1 = znm own) then some (.putfield n) else none
    | _ => none
  | .getstatic i => match zplook zpool own i with
    | some (.getstatic n) => some (.getstatic n)
    | _ => none
  | .invokevirtual i => match zplook zpool own i with
    | some (.invokevirtual n) => some (.invokevirtual n)
    | some .dadd => some .dadd
    | some .dsub => some .dsub
    | _ => none
  | .invokestatic i => match zplook zpool own i with
    | some (.invokestatic n) => some (.invokestatic n)
    | some .fadd => some .fadd
    | some .fsub => some .fsub
    | some .swap => some .swap
    | _ => none
  | .invokespecial i => match zplook zpool own i with
    | some (.invokespecial n) => some (.invokespecial n)
    | some .nop => some .nop
    | _ => none
  | .new i => match zplook zpool own i with
    | some (.new n) => some (.new n)
    | _ => none
  | .anewarray i => match zplook zpool own i with
    | some (.new n) => some (.anewarray (n / 256))
    | _ => none
  | .multianewarray i 2 => match zplook zpool own i with
    | some (.multianewarray _ _) => some (.multianewarray 0 2)
    | _ => none
  | .ireturn => some (if md = 1 then .freturn else .ireturn)
  | .iadd => some .iadd
  | .isub => some .isub
  | .imul => some .imul
  | .idiv => some .idiv
  | .irem => some .irem
  | .iand => some .iand
  | .ior => some .ior
  | .ishl => some .ishl
  | .ishr => some .ishr
  | .iushr => some .iushr
  | .i2l => some .i2l
  | .l2i => some .l2i
  | .i2b => some .i2b
  | .i2s => some .i2s
  | .ladd => some .ladd
  | .lsub => some .lsub
  | .lmul => some .lmul
  | .lcmp => some .lcmp
  | .dup => some .dup
  | .dup2 => some .dup2
  | .pop => some .pop
  | .iinc i c => some (.iinc i c)
  | .iaload => some .iaload
  | .laload => some .laload
  | .baload => some .baload
  | .aaload => some .aaload
  | .iastore => some .iastore
  | .lastore => some .lastore
  | .bastore => some .bastore
  | .aastore => some .aastore
  | .arraylength => some .arraylength
  | .newarray t => some (.newarray t)
  | .lreturn => some .lreturn
  | .areturn => some .areturn
  | .return_ => some .return_
  | _ => none
/-- how long an instruction of one form is (0: of more than one) -/
def zln : Instr → Nat
  | .iconst _ => 1
  | .lconst _ => 1
  | .bipush _ => 2
  | .sipush _ => 3
  | .ldc _ => 2
  | .ldc_w _ => 3
  | .ldc2_w _ => 3
  | .iload _ => 2
  | .lload _ => 2
  | .aload _ => 2
  | .istore _ => 2
  | .lstore _ => 2
  | .astore _ => 2
  | .iinc _ _ => 3
  | .ifCond _ _ => 3
  | .if_icmp _ _ => 3
  | .goto _ => 3
  | .tableswitch _ _ _ _ => 0
  | .lookupswitch _ _ => 0
  | .getfield _ => 3
  | .putfield _ => 3
  | .getstatic _ => 3
  | .invokevirtual _ => 3
  | .invokestatic _ => 3
  | .invokespecial _ => 3
  | .new _ => 3
  | .anewarray _ => 3
  | .newarray _ => 2
  | .multianewarray _ _ => 4
  | _ => 1
/-- an entry of a code's list is what stands in the bytes there -/
def zgood (own : Nat) (md : Nat) (b : ByteArray) (e : Nat × (Instr × Nat)) : Bool := match decode b e.1 with
  | .ok (i, n) => decide (znorm own md e.1 i = some e.2.1) && (Nat.beq e.2.2 (e.1 + n) && (Nat.beq (zln i) 0 || Nat.beq (zln i) n))
  | .error _ => false
/-- (class, (name, (bytes, (locals, (type of the answer, (arguments, (kind: 0 static, 1 virtual, 2 constructor; places in lw_tbl of code, static or instance, selects, initialized))))))) -/
abbrev zMt : Type := Nat × (MethodName × (ByteArray × (Nat × (Option FieldType × (Nat × (Nat × (Nat × (Nat × (Nat × Nat)))))))))
def zM_0 : List zMt := [(0, (⟨"CupsAndPea$Eye", "<init>", "()V"⟩, (prog_2_method_1_code, (1, (none, (1, (2, (128, (127, (0, 68)))))))))), (1, (⟨"CupsAndPea$Orders", "<init>", "()V"⟩, (prog_3_method_1_code, (1, (none, (1, (2, (269, (268, (0, 72)))))))))), (1, (⟨"CupsAndPea$Orders", "thatEnd", "(LCupsAndPea$Table;I)I"⟩, (prog_3_method_2_code, (6, (some (.int), (3, (1, (617, (615, (616, 72)))))))))), (1, (⟨"CupsAndPea$Orders", "goOn", "(LCupsAndPea$Table;II)V"⟩, (prog_3_method_3_code, (6, (none, (4, (1, (625, (624, (9, 72)))))))))), (1, (⟨"CupsAndPea$Orders", "index", "(II)I"⟩, (prog_3_method_4_code, (2, (some (.int), (2, (0, (621, (620, (0, 72)))))))))), (2, (⟨"CupsAndPea$Pass", "<init>", "()V"⟩, (prog_4_method_1_code, (1, (none, (1, (2, (105, (104, (0, 67)))))))))), (2, (⟨"CupsAndPea$Pass", "set", "(III)V"⟩, (prog_4_method_2_code, (4, (none, (4, (1, (400, (398, (399, 67)))))))))), (2, (⟨"CupsAndPea$Pass", "third", "()I"⟩, (prog_4_method_3_code, (2, (some (.int), (1, (1, (416, (414, (415, 67)))))))))), (2, (⟨"CupsAndPea$Pass", "looksTo", "()I"⟩, (prog_4_method_4_code, (1, (some (.int), (1, (1, (412, (410, (411, 67)))))))))), (2, (⟨"CupsAndPea$Pass", "thingBehind", "(I)I"⟩, (prog_4_method_5_code, (2, (some (.int), (2, (1, (445, (443, (444, 67)))))))))), (2, (⟨"CupsAndPea$Pass", "whirled", "(I)I"⟩, (prog_4_method_6_code, (3, (some (.int), (2, (1, (449, (448, (5, 67)))))))))), (2, (⟨"CupsAndPea$Pass", "peaBehind", "(I)I"⟩, (prog_4_method_7_code, (2, (some (.int), (2, (1, (441, (439, (440, 67)))))))))), (2, (⟨"CupsAndPea$Pass", "slipOf", "(I)I"⟩, (prog_4_method_8_code, (2, (some (.int), (2, (1, (481, (479, (480, 67)))))))))), (3, (⟨"CupsAndPea$Playe\x72", "<init>", "()V"⟩, (prog_5_method_1_code, (1, (none, (1, (2, (148, (147, (0, 69)))))))))), (3, (⟨"CupsAndPea$Playe\x72", "tells", "(I)I"⟩, (prog_5_method_2_code, (2, (some (.int), (2, (1, (641, (639, (640, 69)))))))))), (3, (⟨"CupsAndPea$Playe\x72", "become", "(II)V"⟩, (prog_5_method_3_code, (3, (none, (3, (1, (652, (650, (651, 69)))))))))), (3, (⟨"CupsAndPea$Playe\x72", "become", "(LCupsAndPea$Player;)V"⟩, (prog_5_method_4_code, (2, (none, (2, (1, (759, (757, (758, 69)))))))))), (3, (⟨"CupsAndPea$Playe\x72", "hasLeft", "()Z"⟩, (prog_5_method_5_code, (1, (some (.boolean), (1, (1, (645, (643, (644, 69)))))))))), (3, (⟨"CupsAndPea$Playe\x72", "stakes", "(Z)I"⟩, (prog_5_method_6_code, (3, (some (.int), (2, (1, (669, (667, (668, 69)))))))))), (3, (⟨"CupsAndPea$Playe\x72", "brings", "(I)I"⟩, (prog_5_method_7_code, (2, (some (.int), (2, (1, (694, (692, (693, 69)))))))))), (3, (⟨"CupsAndPea$Playe\x72", "isGone", "(III)Z"⟩, (prog_5_method_8_code, (3, (some (.boolean), (3, (0, (648, (647, (0, 69)))))))))), (3, (⟨"CupsAndPea$Playe\x72", "raised", "(I)I"⟩, (prog_5_method_9_code, (1, (some (.int), (1, (0, (673, (672, (0, 69)))))))))), (3, (⟨"CupsAndPea$Playe\x72", "lowered", "(I)I"⟩, (prog_5_method_10_code, (1, (some (.int), (1, (0, (676, (675, (0, 69)))))))))), (3, (⟨"CupsAndPea$Playe\x72", "mostOf", "(IIIII)I"⟩, (prog_5_method_11_code, (7, (some (.int), (5, (0, (697, (696, (0, 69)))))))))), (3, (⟨"CupsAndPea$Playe\x72", "winningFirst", "(IIII)I"⟩, (prog_5_method_12_code, (5, (some (.int), (4, (0, (700, (699, (0, 69))))))))))]
def zM_1 : List zMt := [(3, (⟨"CupsAndPea$Playe\x72", "losingFirst", "(IIIII)I"⟩, (prog_5_method_13_code, (6, (some (.int), (5, (0, (703, (702, (0, 69)))))))))), (4, (⟨"CupsAndPea$Search", "<init>", "()V"⟩, (prog_6_method_1_code, (1, (none, (1, (2, (237, (236, (0, 71)))))))))), (4, (⟨"CupsAndPea$Search", "start", "(LCupsAndPea$Table;LCupsAndPea$Sight;III)V"⟩, (prog_6_method_2_code, (6, (none, (6, (1, (564, (562, (563, 71)))))))))), (4, (⟨"CupsAndPea$Search", "seek", "(LCupsAndPea$Search;LCupsAndPea$Table;LCupsAndPea$Sight;II)V"⟩, (prog_6_method_3_code, (7, (none, (5, (0, (572, (571, (0, 71)))))))))), (4, (⟨"CupsAndPea$Search", "choose", "(LCupsAndPea$Search;LCupsAndPea$Table;LCupsAndPea$Sight;II)V"⟩, (prog_6_method_4_code, (8, (none, (5, (0, (576, (575, (0, 71)))))))))), (5, (⟨"CupsAndPea$Sheet", "<init>", "()V"⟩, (prog_7_method_1_code, (1, (none, (1, (2, (307, (306, (0, 74)))))))))), (5, (⟨"CupsAndPea$Sheet", "lay", "(II)V"⟩, (prog_7_method_2_code, (4, (none, (3, (1, (908, (906, (907, 74)))))))))), (5, (⟨"CupsAndPea$Sheet", "put", "(II)V"⟩, (prog_7_method_3_code, (3, (none, (3, (1, (916, (914, (915, 74)))))))))), (5, (⟨"CupsAndPea$Sheet", "has", "(II)Z"⟩, (prog_7_method_4_code, (3, (some (.boolean), (3, (1, (924, (922, (923, 74)))))))))), (6, (⟨"CupsAndPea$Sight", "<init>", "()V"⟩, (prog_8_method_1_code, (1, (none, (1, (2, (224, (223, (0, 70)))))))))), (6, (⟨"CupsAndPea$Sight", "follow", "(LCupsAndPea$Table;II)V"⟩, (prog_8_method_2_code, (7, (none, (4, (1, (477, (475, (476, 70)))))))))), (6, (⟨"CupsAndPea$Sight", "see", "(ILCupsAndPea$Pass;II)V"⟩, (prog_8_method_3_code, (6, (none, (5, (1, (488, (486, (487, 70)))))))))), (6, (⟨"CupsAndPea$Sight", "seenAt", "(ILCupsAndPea$Pass;III)J"⟩, (prog_8_method_4_code, (13, (some (.long), (6, (1, (492, (490, (491, 70)))))))))), (6, (⟨"CupsAndPea$Sight", "at", "(II)J"⟩, (prog_8_method_5_code, (3, (some (.long), (3, (1, (501, (499, (500, 70)))))))))), (6, (⟨"CupsAndPea$Sight", "likeliest", "(I)I"⟩, (prog_8_method_6_code, (4, (some (.int), (2, (1, (513, (511, (512, 70)))))))))), (6, (⟨"CupsAndPea$Sight", "likeliestWith", "(LCupsAndPea$Sight;I)I"⟩, (prog_8_method_7_code, (9, (some (.int), (3, (1, (534, (532, (533, 70)))))))))), (7, (⟨"CupsAndPea$Table", "<init>", "()V"⟩, (prog_9_method_1_code, (2, (none, (1, (2, (94, (93, (0, 66)))))))))), (7, (⟨"CupsAndPea$Table", "become", "(LCupsAndPea$Table;)V"⟩, (prog_9_method_2_code, (4, (none, (2, (1, (755, (753, (754, 66)))))))))), (7, (⟨"CupsAndPea$Table", "setCups", "(I)V"⟩, (prog_9_method_3_code, (3, (none, (2, (1, (372, (370, (371, 66)))))))))), (7, (⟨"CupsAndPea$Table", "add", "(III)V"⟩, (prog_9_method_4_code, (4, (none, (4, (1, (396, (394, (395, 66)))))))))), (7, (⟨"CupsAndPea$Table", "peaBehind", "(I)I"⟩, (prog_9_method_5_code, (4, (some (.int), (2, (1, (437, (435, (436, 66)))))))))), (7, (⟨"CupsAndPea$Table", "feintSets", "()I"⟩, (prog_9_method_6_code, (1, (some (.int), (1, (1, (593, (591, (592, 66)))))))))), (7, (⟨"CupsAndPea$Table", "peaWithFeints", "(I)I"⟩, (prog_9_method_7_code, (4, (some (.int), (2, (1, (598, (596, (597, 66)))))))))), (7, (⟨"CupsAndPea$Table", "playRound", "(IZ)I"⟩, (prog_9_method_8_code, (4, (some (.int), (3, (1, (665, (663, (664, 66)))))))))), (7, (⟨"CupsAndPea$Table", "whoLeft", "()I"⟩, (prog_9_method_9_code, (3, (some (.int), (1, (1, (721, (719, (720, 66))))))))))]
def zM_2 : List zMt := [(7, (⟨"CupsAndPea$Table", "draw", "(I)I"⟩, (prog_9_method_10_code, (2, (some (.int), (2, (1, (730, (728, (729, 66)))))))))), (7, (⟨"CupsAndPea$Table", "sumOfPlayers", "(I)I"⟩, (prog_9_method_11_code, (4, (some (.int), (2, (1, (953, (951, (952, 66)))))))))), (7, (⟨"CupsAndPea$Table", "sumOfSlips", "()I"⟩, (prog_9_method_12_code, (3, (some (.int), (1, (1, (958, (956, (957, 66)))))))))), (7, (⟨"CupsAndPea$Table", "fullSpots", "()I"⟩, (prog_9_method_13_code, (3, (some (.int), (1, (1, (962, (960, (961, 66)))))))))), (8, (⟨"CupsAndPea$Tape", "<init>", "()V"⟩, (prog_10_method_1_code, (1, (none, (1, (2, (279, (278, (0, 73)))))))))), (8, (⟨"CupsAndPea$Tape", "put", "(I)V"⟩, (prog_10_method_2_code, (2, (none, (2, (1, (743, (741, (742, 73)))))))))), (8, (⟨"CupsAndPea$Tape", "readOnto", "(LCupsAndPea$Table;)I"⟩, (prog_10_method_3_code, (3, (some (.int), (2, (1, (764, (762, (763, 73)))))))))), (8, (⟨"CupsAndPea$Tape", "readItem", "(LCupsAndPea$Table;)Z"⟩, (prog_10_method_4_code, (3, (some (.boolean), (2, (1, (777, (776, (12, 73)))))))))), (8, (⟨"CupsAndPea$Tape", "kindNamed", "()I"⟩, (prog_10_method_5_code, (2, (some (.int), (1, (1, (781, (780, (13, 73)))))))))), (8, (⟨"CupsAndPea$Tape", "nameOfKind", "(I)Ljava/lang/String;"⟩, (prog_10_method_6_code, (1, (some (.object "java/lang/String"), (1, (0, (784, (783, (0, 73)))))))))), (8, (⟨"CupsAndPea$Tape", "readPass", "(LCupsAndPea$Table;I)Z"⟩, (prog_10_method_7_code, (5, (some (.boolean), (3, (1, (847, (846, (15, 73)))))))))), (8, (⟨"CupsAndPea$Tape", "readPea", "(LCupsAndPea$Table;)Z"⟩, (prog_10_method_8_code, (3, (some (.boolean), (2, (1, (858, (857, (17, 73)))))))))), (8, (⟨"CupsAndPea$Tape", "readEye", "(LCupsAndPea$Table;)Z"⟩, (prog_10_method_9_code, (4, (some (.boolean), (2, (1, (864, (863, (18, 73)))))))))), (8, (⟨"CupsAndPea$Tape", "readPlaye\x72", "(LCupsAndPea$Table;)Z"⟩, (prog_10_method_10_code, (5, (some (.boolean), (2, (1, (870, (869, (19, 73)))))))))), (8, (⟨"CupsAndPea$Tape", "nameOfOwn", "(I)Ljava/lang/String;"⟩, (prog_10_method_11_code, (1, (some (.object "java/lang/String"), (1, (0, (873, (872, (0, 73)))))))))), (8, (⟨"CupsAndPea$Tape", "takeNumbe\x72", "(II)I"⟩, (prog_10_method_12_code, (4, (some (.int), (3, (1, (851, (850, (16, 73)))))))))), (8, (⟨"CupsAndPea$Tape", "isWord", "(Ljava/lang/String;)Z"⟩, (prog_10_method_13_code, (3, (some (.boolean), (2, (1, (795, (794, (14, 73)))))))))), (8, (⟨"CupsAndPea$Tape", "step", "()V"⟩, (prog_10_method_14_code, (1, (none, (1, (1, (768, (767, (10, 73)))))))))), (8, (⟨"CupsAndPea$Tape", "sortAt", "(I)I"⟩, (prog_10_method_15_code, (3, (some (.int), (2, (1, (772, (771, (11, 73)))))))))), (9, (⟨"CupsAndPea", "<init>", "()V"⟩, (prog_1_method_1_code, (2, (none, (1, (2, (86, (85, (0, 65)))))))))), (9, (⟨"CupsAndPea", "cups", "(I)I"⟩, (prog_1_method_2_code, (3, (some (.int), (2, (1, (359, (357, (358, 65)))))))))), (9, (⟨"CupsAndPea", "pea", "(I)I"⟩, (prog_1_method_3_code, (3, (some (.int), (2, (1, (376, (374, (375, 65)))))))))), (9, (⟨"CupsAndPea", "pass", "(III)I"⟩, (prog_1_method_4_code, (4, (some (.int), (4, (1, (388, (386, (387, 65)))))))))), (9, (⟨"CupsAndPea", "of", "(II)I"⟩, (prog_1_method_5_code, (4, (some (.int), (3, (1, (404, (402, (403, 65)))))))))), (9, (⟨"CupsAndPea", "change", "(II)I"⟩, (prog_1_method_6_code, (4, (some (.int), (3, (1, (420, (418, (419, 65))))))))))]
def zM_3 : List zMt := [(9, (⟨"CupsAndPea", "back", "()I"⟩, (prog_1_method_7_code, (1, (some (.int), (1, (1, (424, (422, (423, 65)))))))))), (9, (⟨"CupsAndPea", "where", "(I)I"⟩, (prog_1_method_8_code, (2, (some (.int), (2, (1, (429, (427, (428, 65)))))))))), (9, (⟨"CupsAndPea", "goes", "(II)I"⟩, (prog_1_method_9_code, (5, (some (.int), (3, (1, (456, (454, (455, 65)))))))))), (9, (⟨"CupsAndPea", "moves", "()I"⟩, (prog_1_method_10_code, (5, (some (.int), (1, (1, (461, (459, (460, 65)))))))))), (9, (⟨"CupsAndPea", "eye", "(III)I"⟩, (prog_1_method_11_code, (6, (some (.int), (4, (1, (466, (464, (465, 65)))))))))), (9, (⟨"CupsAndPea", "weight", "(III)J"⟩, (prog_1_method_12_code, (4, (some (.long), (4, (1, (473, (471, (472, 65)))))))))), (9, (⟨"CupsAndPea", "guess", "(I)I"⟩, (prog_1_method_13_code, (2, (some (.int), (2, (1, (505, (503, (504, 65)))))))))), (9, (⟨"CupsAndPea", "right", "(I)J"⟩, (prog_1_method_14_code, (2, (some (.long), (2, (1, (517, (515, (516, 65)))))))))), (9, (⟨"CupsAndPea", "lost", "(I)I"⟩, (prog_1_method_15_code, (3, (some (.int), (2, (1, (525, (523, (524, 65)))))))))), (9, (⟨"CupsAndPea", "both", "(II)I"⟩, (prog_1_method_16_code, (4, (some (.int), (3, (1, (529, (527, (528, 65)))))))))), (9, (⟨"CupsAndPea", "may", "(I)I"⟩, (prog_1_method_17_code, (4, (some (.int), (2, (1, (538, (536, (537, 65)))))))))), (9, (⟨"CupsAndPea", "watch", "(I)I"⟩, (prog_1_method_18_code, (8, (some (.int), (2, (1, (542, (540, (541, 65)))))))))), (9, (⟨"CupsAndPea", "feint", "(I)I"⟩, (prog_1_method_19_code, (8, (some (.int), (2, (1, (547, (545, (546, 65)))))))))), (9, (⟨"CupsAndPea", "kindFo\x72", "(II)I"⟩, (prog_1_method_20_code, (9, (some (.int), (3, (1, (556, (554, (555, 65)))))))))), (9, (⟨"CupsAndPea", "misled", "(III)J"⟩, (prog_1_method_21_code, (4, (some (.long), (4, (1, (560, (558, (559, 65)))))))))), (9, (⟨"CupsAndPea", "row", "(IIII)I"⟩, (prog_1_method_22_code, (5, (some (.int), (5, (1, (585, (583, (584, 65)))))))))), (9, (⟨"CupsAndPea", "feints", "(I)I"⟩, (prog_1_method_23_code, (5, (some (.int), (2, (1, (589, (587, (588, 65)))))))))), (9, (⟨"CupsAndPea", "surely", "(II)I"⟩, (prog_1_method_24_code, (8, (some (.int), (3, (1, (602, (600, (601, 65)))))))))), (9, (⟨"CupsAndPea", "rings", "()I"⟩, (prog_1_method_25_code, (4, (some (.int), (1, (1, (606, (604, (605, 65)))))))))), (9, (⟨"CupsAndPea", "orders", "(I)I"⟩, (prog_1_method_26_code, (2, (some (.int), (2, (1, (613, (611, (612, 65)))))))))), (9, (⟨"CupsAndPea", "playe\x72", "(III)I"⟩, (prog_1_method_27_code, (6, (some (.int), (4, (1, (630, (628, (629, 65)))))))))), (9, (⟨"CupsAndPea", "told", "(II)I"⟩, (prog_1_method_28_code, (3, (some (.int), (3, (1, (656, (654, (655, 65)))))))))), (9, (⟨"CupsAndPea", "round", "(II)I"⟩, (prog_1_method_29_code, (3, (some (.int), (3, (1, (660, (658, (659, 65)))))))))), (9, (⟨"CupsAndPea", "play", "(II)I"⟩, (prog_1_method_30_code, (4, (some (.int), (3, (1, (683, (681, (682, 65)))))))))), (9, (⟨"CupsAndPea", "best", "(II)I"⟩, (prog_1_method_31_code, (3, (some (.int), (3, (1, (687, (685, (686, 65))))))))))]
def zM_4 : List zMt := [(9, (⟨"CupsAndPea", "should", "(II)I"⟩, (prog_1_method_32_code, (6, (some (.int), (3, (1, (707, (705, (706, 65)))))))))), (9, (⟨"CupsAndPea", "richest", "(I)I"⟩, (prog_1_method_33_code, (6, (some (.int), (2, (1, (713, (711, (712, 65)))))))))), (9, (⟨"CupsAndPea", "now", "(I)I"⟩, (prog_1_method_34_code, (2, (some (.int), (2, (1, (717, (715, (716, 65)))))))))), (9, (⟨"CupsAndPea", "shuffle", "(I)I"⟩, (prog_1_method_35_code, (7, (some (.int), (2, (1, (726, (724, (725, 65)))))))))), (9, (⟨"CupsAndPea", "seed", "(I)I"⟩, (prog_1_method_36_code, (3, (some (.int), (2, (1, (735, (733, (734, 65)))))))))), (9, (⟨"CupsAndPea", "feed", "(II)I"⟩, (prog_1_method_37_code, (4, (some (.int), (3, (1, (739, (737, (738, 65)))))))))), (9, (⟨"CupsAndPea", "wipe", "()I"⟩, (prog_1_method_38_code, (2, (some (.int), (1, (1, (747, (745, (746, 65)))))))))), (9, (⟨"CupsAndPea", "text", "()I"⟩, (prog_1_method_39_code, (2, (some (.int), (1, (1, (751, (749, (750, 65)))))))))), (9, (⟨"CupsAndPea", "hold", "(II)I"⟩, (prog_1_method_40_code, (3, (some (.int), (3, (1, (883, (881, (882, 65)))))))))), (9, (⟨"CupsAndPea", "as", "(II)I"⟩, (prog_1_method_41_code, (4, (some (.int), (3, (1, (887, (885, (886, 65)))))))))), (9, (⟨"CupsAndPea", "sheet", "(III)I"⟩, (prog_1_method_42_code, (4, (some (.int), (4, (1, (898, (896, (897, 65)))))))))), (9, (⟨"CupsAndPea", "write", "(III)I"⟩, (prog_1_method_43_code, (4, (some (.int), (4, (1, (912, (910, (911, 65)))))))))), (9, (⟨"CupsAndPea", "copy", "(IIIII)I"⟩, (prog_1_method_44_code, (8, (some (.int), (6, (1, (920, (918, (919, 65)))))))))), (9, (⟨"CupsAndPea", "load", "(I)I"⟩, (prog_1_method_45_code, (4, (some (.int), (2, (1, (929, (927, (928, 65)))))))))), (9, (⟨"CupsAndPea", "judge", "(I)I"⟩, (prog_1_method_46_code, (4, (some (.int), (2, (1, (933, (931, (932, 65)))))))))), (9, (⟨"CupsAndPea", "image", "()I"⟩, (prog_1_method_47_code, (1, (some (.int), (1, (1, (937, (935, (936, 65)))))))))), (9, (⟨"CupsAndPea", "undo", "()I"⟩, (prog_1_method_48_code, (1, (some (.int), (1, (1, (941, (939, (940, 65)))))))))), (9, (⟨"CupsAndPea", "tea\x72", "()I"⟩, (prog_1_method_49_code, (2, (some (.int), (1, (1, (945, (943, (944, 65)))))))))), (9, (⟨"CupsAndPea", "count", "(I)I"⟩, (prog_1_method_50_code, (2, (some (.int), (2, (1, (949, (947, (948, 65)))))))))), (9, (⟨"CupsAndPea", "status", "(I)I"⟩, (prog_1_method_51_code, (4, (some (.int), (2, (1, (966, (964, (965, 65)))))))))), (9, (⟨"CupsAndPea", "tell", "(I)I"⟩, (prog_1_method_52_code, (2, (some (.int), (2, (1, (367, (366, (0, 65)))))))))), (9, (⟨"CupsAndPea", "likeliest", "(I)I"⟩, (prog_1_method_53_code, (2, (some (.int), (2, (1, (509, (508, (6, 65)))))))))), (9, (⟨"CupsAndPea", "rightOf", "(II)J"⟩, (prog_1_method_54_code, (3, (some (.long), (3, (1, (521, (520, (7, 65)))))))))), (9, (⟨"CupsAndPea", "rightIf", "(III)J"⟩, (prog_1_method_55_code, (7, (some (.long), (4, (1, (552, (551, (8, 65)))))))))), (9, (⟨"CupsAndPea", "isPlace", "(I)Z"⟩, (prog_1_method_56_code, (2, (some (.boolean), (2, (1, (384, (383, (2, 65))))))))))]
def zM_5 : List zMt := [(9, (⟨"CupsAndPea", "isPlaceOrHand", "(I)Z"⟩, (prog_1_method_57_code, (2, (some (.boolean), (2, (1, (380, (379, (1, 65)))))))))), (9, (⟨"CupsAndPea", "isPass", "(I)Z"⟩, (prog_1_method_58_code, (2, (some (.boolean), (2, (1, (408, (407, (3, 65)))))))))), (9, (⟨"CupsAndPea", "isBehind", "(I)Z"⟩, (prog_1_method_59_code, (2, (some (.boolean), (2, (1, (433, (432, (4, 65)))))))))), (9, (⟨"CupsAndPea", "isKind", "(I)Z"⟩, (prog_1_method_60_code, (1, (some (.boolean), (1, (0, (391, (390, (0, 65)))))))))), (9, (⟨"CupsAndPea", "isEye", "(I)Z"⟩, (prog_1_method_61_code, (1, (some (.boolean), (1, (0, (469, (468, (0, 65)))))))))), (9, (⟨"CupsAndPea", "isPlaye\x72", "(I)Z"⟩, (prog_1_method_62_code, (1, (some (.boolean), (1, (0, (633, (632, (0, 65)))))))))), (9, (⟨"CupsAndPea", "isRounds", "(I)Z"⟩, (prog_1_method_63_code, (1, (some (.boolean), (1, (0, (690, (689, (0, 65)))))))))), (9, (⟨"CupsAndPea", "isSheet", "(I)Z"⟩, (prog_1_method_64_code, (1, (some (.boolean), (1, (0, (901, (900, (0, 65)))))))))), (9, (⟨"CupsAndPea", "isBits", "(I)Z"⟩, (prog_1_method_65_code, (1, (some (.boolean), (1, (0, (904, (903, (0, 65)))))))))), (9, (⟨"CupsAndPea", "within", "(III)Z"⟩, (prog_1_method_66_code, (3, (some (.boolean), (3, (0, (362, (361, (0, 65)))))))))), (9, (⟨"CupsAndPea", "isUnde\x72", "(II)Z"⟩, (prog_1_method_67_code, (4, (some (.boolean), (2, (0, (891, (890, (0, 65)))))))))), (9, (⟨"CupsAndPea", "ringAt", "(I)I"⟩, (prog_1_method_68_code, (3, (some (.int), (1, (0, (609, (608, (0, 65)))))))))), (9, (⟨"CupsAndPea", "swapped", "(III)I"⟩, (prog_1_method_69_code, (3, (some (.int), (3, (0, (452, (451, (0, 65)))))))))), (9, (⟨"CupsAndPea", "next", "(II)I"⟩, (prog_1_method_70_code, (2, (some (.int), (2, (0, (496, (495, (0, 65)))))))))), (10, (⟨"CupsAndPeaModel", "<init>", "()V"⟩, (prog_12_method_1_code, (2, (none, (1, (2, (971, (970, (0, 75)))))))))), (10, (⟨"CupsAndPeaModel", "finds", "(I)I"⟩, (prog_12_method_3_code, (2, (some (.int), (2, (1, (1079, (1078, (20, 75)))))))))), (10, (⟨"CupsAndPeaModel", "in", "(JJJ)Z"⟩, (prog_12_method_4_code, (6, (some (.boolean), (3, (0, (1075, (1074, (0, 75)))))))))), (10, (⟨"CupsAndPeaModel", "copies", "([I[I)V"⟩, (prog_12_method_5_code, (3, (none, (2, (0, (1332, (1331, (0, 75)))))))))), (10, (⟨"CupsAndPeaModel", "isPlace", "(I)Z"⟩, (prog_12_method_6_code, (2, (some (.boolean), (2, (1, (1093, (1092, (21, 75)))))))))), (10, (⟨"CupsAndPeaModel", "isPass", "(I)Z"⟩, (prog_12_method_7_code, (2, (some (.boolean), (2, (1, (1105, (1104, (23, 75)))))))))), (10, (⟨"CupsAndPeaModel", "isFou\x72", "(I)Z"⟩, (prog_12_method_8_code, (1, (some (.boolean), (1, (0, (1156, (1155, (0, 75)))))))))), (10, (⟨"CupsAndPeaModel", "its", "(II)I"⟩, (prog_12_method_9_code, (3, (some (.int), (3, (1, (1109, (1108, (24, 75)))))))))), (10, (⟨"CupsAndPeaModel", "third", "(II)I"⟩, (prog_12_method_10_code, (3, (some (.int), (2, (0, (1116, (1115, (0, 75)))))))))), (10, (⟨"CupsAndPeaModel", "swapped", "(III)I"⟩, (prog_12_method_11_code, (3, (some (.int), (3, (0, (1141, (1140, (0, 75)))))))))), (10, (⟨"CupsAndPeaModel", "cupBy", "(IIII)I"⟩, (prog_12_method_12_code, (5, (some (.int), (4, (0, (1138, (1137, (0, 75))))))))))]
def zM_6 : List zMt := [(10, (⟨"CupsAndPeaModel", "peaBy", "(IIII)I"⟩, (prog_12_method_13_code, (5, (some (.int), (4, (0, (1135, (1134, (0, 75)))))))))), (10, (⟨"CupsAndPeaModel", "seen", "(I)I"⟩, (prog_12_method_14_code, (2, (some (.int), (2, (1, (1113, (1112, (25, 75)))))))))), (10, (⟨"CupsAndPeaModel", "cups", "(I)I"⟩, (prog_12_method_15_code, (4, (some (.int), (2, (1, (1070, (1068, (1069, 75)))))))))), (10, (⟨"CupsAndPeaModel", "pea", "(I)I"⟩, (prog_12_method_16_code, (3, (some (.int), (2, (1, (1084, (1082, (1083, 75)))))))))), (10, (⟨"CupsAndPeaModel", "comes", "(III)I"⟩, (prog_12_method_17_code, (5, (some (.int), (4, (1, (1097, (1096, (22, 75)))))))))), (10, (⟨"CupsAndPeaModel", "pass", "(III)I"⟩, (prog_12_method_18_code, (4, (some (.int), (4, (1, (1089, (1087, (1088, 75)))))))))), (10, (⟨"CupsAndPeaModel", "of", "(II)I"⟩, (prog_12_method_19_code, (3, (some (.int), (3, (1, (1101, (1099, (1100, 75)))))))))), (10, (⟨"CupsAndPeaModel", "change", "(II)I"⟩, (prog_12_method_20_code, (4, (some (.int), (3, (1, (1120, (1118, (1119, 75)))))))))), (10, (⟨"CupsAndPeaModel", "back", "()I"⟩, (prog_12_method_21_code, (1, (some (.int), (1, (1, (1124, (1122, (1123, 75)))))))))), (10, (⟨"CupsAndPeaModel", "peaBehind", "(I)I"⟩, (prog_12_method_22_code, (4, (some (.int), (2, (1, (1132, (1131, (26, 75)))))))))), (10, (⟨"CupsAndPeaModel", "where", "(I)I"⟩, (prog_12_method_23_code, (2, (some (.int), (2, (1, (1128, (1126, (1127, 75)))))))))), (10, (⟨"CupsAndPeaModel", "goes", "(II)I"⟩, (prog_12_method_24_code, (5, (some (.int), (3, (1, (1145, (1143, (1144, 75)))))))))), (10, (⟨"CupsAndPeaModel", "moves", "()I"⟩, (prog_12_method_25_code, (5, (some (.int), (1, (1, (1149, (1147, (1148, 75)))))))))), (10, (⟨"CupsAndPeaModel", "slips", "(II)I"⟩, (prog_12_method_26_code, (4, (some (.int), (3, (1, (1173, (1172, (29, 75)))))))))), (10, (⟨"CupsAndPeaModel", "beginsBy", "(I)V"⟩, (prog_12_method_27_code, (3, (none, (2, (1, (1169, (1168, (28, 75)))))))))), (10, (⟨"CupsAndPeaModel", "looksAt", "(III)V"⟩, (prog_12_method_28_code, (6, (none, (4, (1, (1177, (1176, (30, 75)))))))))), (10, (⟨"CupsAndPeaModel", "watches", "(III)V"⟩, (prog_12_method_29_code, (5, (none, (4, (1, (1165, (1164, (27, 75)))))))))), (10, (⟨"CupsAndPeaModel", "heaviest", "()I"⟩, (prog_12_method_30_code, (3, (some (.int), (1, (1, (1189, (1188, (32, 75)))))))))), (10, (⟨"CupsAndPeaModel", "eye", "(III)I"⟩, (prog_12_method_31_code, (5, (some (.int), (4, (1, (1153, (1151, (1152, 75)))))))))), (10, (⟨"CupsAndPeaModel", "weight", "(III)J"⟩, (prog_12_method_32_code, (4, (some (.long), (4, (1, (1161, (1159, (1160, 75)))))))))), (10, (⟨"CupsAndPeaModel", "guessBehind", "(II)I"⟩, (prog_12_method_33_code, (3, (some (.int), (3, (1, (1185, (1184, (31, 75)))))))))), (10, (⟨"CupsAndPeaModel", "guess", "(I)I"⟩, (prog_12_method_34_code, (2, (some (.int), (2, (1, (1181, (1179, (1180, 75)))))))))), (10, (⟨"CupsAndPeaModel", "rightNow", "(I)J"⟩, (prog_12_method_35_code, (2, (some (.long), (2, (1, (1201, (1200, (34, 75)))))))))), (10, (⟨"CupsAndPeaModel", "rightOf", "(II)J"⟩, (prog_12_method_36_code, (3, (some (.long), (3, (1, (1197, (1196, (33, 75)))))))))), (10, (⟨"CupsAndPeaModel", "right", "(I)J"⟩, (prog_12_method_37_code, (2, (some (.long), (2, (1, (1193, (1191, (1192, 75))))))))))]
def zM_7 : List zMt := [(10, (⟨"CupsAndPeaModel", "lost", "(I)I"⟩, (prog_12_method_38_code, (3, (some (.int), (2, (1, (1205, (1203, (1204, 75)))))))))), (10, (⟨"CupsAndPeaModel", "both", "(II)I"⟩, (prog_12_method_39_code, (4, (some (.int), (3, (1, (1209, (1207, (1208, 75)))))))))), (10, (⟨"CupsAndPeaModel", "may", "(I)I"⟩, (prog_12_method_40_code, (4, (some (.int), (2, (1, (1213, (1211, (1212, 75)))))))))), (10, (⟨"CupsAndPeaModel", "watch", "(I)I"⟩, (prog_12_method_41_code, (8, (some (.int), (2, (1, (1217, (1215, (1216, 75)))))))))), (10, (⟨"CupsAndPeaModel", "rightAs", "(III)J"⟩, (prog_12_method_42_code, (7, (some (.long), (4, (1, (1225, (1224, (35, 75)))))))))), (10, (⟨"CupsAndPeaModel", "feint", "(I)I"⟩, (prog_12_method_43_code, (8, (some (.int), (2, (1, (1221, (1219, (1220, 75)))))))))), (10, (⟨"CupsAndPeaModel", "kindFo\x72", "(II)I"⟩, (prog_12_method_44_code, (9, (some (.int), (3, (1, (1229, (1227, (1228, 75)))))))))), (10, (⟨"CupsAndPeaModel", "layPairs", "()V"⟩, (prog_12_method_45_code, (3, (none, (1, (1, (1246, (1245, (38, 75)))))))))), (10, (⟨"CupsAndPeaModel", "pairOf", "(III)I"⟩, (prog_12_method_46_code, (6, (some (.int), (4, (1, (1250, (1249, (39, 75)))))))))), (10, (⟨"CupsAndPeaModel", "findMisled", "(III)V"⟩, (prog_12_method_47_code, (13, (none, (4, (1, (1242, (1241, (37, 75)))))))))), (10, (⟨"CupsAndPeaModel", "whyMisled", "(III)I"⟩, (prog_12_method_48_code, (4, (some (.int), (4, (1, (1237, (1236, (36, 75)))))))))), (10, (⟨"CupsAndPeaModel", "misled", "(III)J"⟩, (prog_12_method_49_code, (5, (some (.long), (4, (1, (1233, (1231, (1232, 75)))))))))), (10, (⟨"CupsAndPeaModel", "row", "(IIII)I"⟩, (prog_12_method_50_code, (7, (some (.int), (5, (1, (1254, (1252, (1253, 75)))))))))), (10, (⟨"CupsAndPeaModel", "findFeints", "(I)V"⟩, (prog_12_method_51_code, (6, (none, (2, (1, (1266, (1265, (41, 75)))))))))), (10, (⟨"CupsAndPeaModel", "isWhere", "(I)Z"⟩, (prog_12_method_52_code, (2, (some (.boolean), (2, (1, (1262, (1261, (40, 75)))))))))), (10, (⟨"CupsAndPeaModel", "feints", "(I)I"⟩, (prog_12_method_53_code, (2, (some (.int), (2, (1, (1258, (1256, (1257, 75)))))))))), (10, (⟨"CupsAndPeaModel", "surely", "(II)I"⟩, (prog_12_method_54_code, (3, (some (.int), (3, (1, (1270, (1268, (1269, 75)))))))))), (10, (⟨"CupsAndPeaModel", "powe\x72", "(I)I"⟩, (prog_12_method_55_code, (3, (some (.int), (1, (0, (1278, (1277, (0, 75)))))))))), (10, (⟨"CupsAndPeaModel", "rings", "()I"⟩, (prog_12_method_56_code, (3, (some (.int), (1, (1, (1275, (1273, (1274, 75)))))))))), (10, (⟨"CupsAndPeaModel", "orders", "(I)I"⟩, (prog_12_method_57_code, (7, (some (.int), (2, (1, (1282, (1280, (1281, 75)))))))))), (10, (⟨"CupsAndPeaModel", "whose", "(II)I"⟩, (prog_12_method_58_code, (3, (some (.int), (3, (1, (1293, (1292, (42, 75)))))))))), (10, (⟨"CupsAndPeaModel", "sets", "(III)V"⟩, (prog_12_method_59_code, (4, (none, (4, (1, (1297, (1296, (43, 75)))))))))), (10, (⟨"CupsAndPeaModel", "hasLeft", "(I)Z"⟩, (prog_12_method_60_code, (2, (some (.boolean), (2, (1, (1305, (1304, (44, 75)))))))))), (10, (⟨"CupsAndPeaModel", "playe\x72", "(III)I"⟩, (prog_12_method_61_code, (5, (some (.int), (4, (1, (1286, (1284, (1285, 75)))))))))), (10, (⟨"CupsAndPeaModel", "told", "(II)I"⟩, (prog_12_method_62_code, (3, (some (.int), (3, (1, (1301, (1299, (1300, 75))))))))))]
def zM_8 : List zMt := [(10, (⟨"CupsAndPeaModel", "aRound", "(IZ)I"⟩, (prog_12_method_63_code, (5, (some (.int), (3, (1, (1313, (1312, (45, 75)))))))))), (10, (⟨"CupsAndPeaModel", "round", "(II)I"⟩, (prog_12_method_64_code, (3, (some (.int), (3, (1, (1309, (1307, (1308, 75)))))))))), (10, (⟨"CupsAndPeaModel", "play", "(II)I"⟩, (prog_12_method_65_code, (5, (some (.int), (3, (1, (1317, (1315, (1316, 75)))))))))), (10, (⟨"CupsAndPeaModel", "tries", "(II)V"⟩, (prog_12_method_66_code, (7, (none, (3, (1, (1329, (1328, (47, 75)))))))))), (10, (⟨"CupsAndPeaModel", "bestOf", "(II)I"⟩, (prog_12_method_67_code, (3, (some (.int), (3, (1, (1325, (1324, (46, 75)))))))))), (10, (⟨"CupsAndPeaModel", "best", "(II)I"⟩, (prog_12_method_68_code, (3, (some (.int), (3, (1, (1321, (1319, (1320, 75)))))))))), (10, (⟨"CupsAndPeaModel", "should", "(II)I"⟩, (prog_12_method_69_code, (4, (some (.int), (3, (1, (1336, (1334, (1335, 75)))))))))), (10, (⟨"CupsAndPeaModel", "richest", "(I)I"⟩, (prog_12_method_70_code, (6, (some (.int), (2, (1, (1340, (1338, (1339, 75)))))))))), (10, (⟨"CupsAndPeaModel", "now", "(I)I"⟩, (prog_12_method_71_code, (4, (some (.int), (2, (1, (1344, (1342, (1343, 75)))))))))), (10, (⟨"CupsAndPeaModel", "drawn", "()I"⟩, (prog_12_method_72_code, (1, (some (.int), (1, (1, (1353, (1352, (48, 75)))))))))), (10, (⟨"CupsAndPeaModel", "shuffle", "(I)I"⟩, (prog_12_method_73_code, (7, (some (.int), (2, (1, (1348, (1346, (1347, 75)))))))))), (10, (⟨"CupsAndPeaModel", "seed", "(I)I"⟩, (prog_12_method_74_code, (3, (some (.int), (2, (1, (1358, (1356, (1357, 75)))))))))), (10, (⟨"CupsAndPeaModel", "feed", "(II)I"⟩, (prog_12_method_75_code, (4, (some (.int), (3, (1, (1362, (1360, (1361, 75)))))))))), (10, (⟨"CupsAndPeaModel", "wipe", "()I"⟩, (prog_12_method_76_code, (2, (some (.int), (1, (1, (1366, (1364, (1365, 75)))))))))), (10, (⟨"CupsAndPeaModel", "lette\x72", "(I)I"⟩, (prog_12_method_77_code, (1, (some (.int), (1, (0, (1385, (1384, (0, 75)))))))))), (10, (⟨"CupsAndPeaModel", "isDigit", "(I)Z"⟩, (prog_12_method_78_code, (1, (some (.boolean), (1, (0, (1390, (1389, (0, 75)))))))))), (10, (⟨"CupsAndPeaModel", "byteAt", "(I)I"⟩, (prog_12_method_79_code, (2, (some (.int), (2, (1, (1382, (1381, (51, 75)))))))))), (10, (⟨"CupsAndPeaModel", "next", "()V"⟩, (prog_12_method_80_code, (2, (none, (1, (1, (1378, (1377, (50, 75)))))))))), (10, (⟨"CupsAndPeaModel", "wrongHere", "()V"⟩, (prog_12_method_81_code, (1, (none, (1, (1, (1418, (1417, (56, 75)))))))))), (10, (⟨"CupsAndPeaModel", "isWord", "(J)Z"⟩, (prog_12_method_82_code, (3, (some (.boolean), (2, (1, (1404, (1403, (54, 75)))))))))), (10, (⟨"CupsAndPeaModel", "kindHere", "()I"⟩, (prog_12_method_83_code, (1, (some (.int), (1, (1, (1399, (1398, (53, 75)))))))))), (10, (⟨"CupsAndPeaModel", "numberHere", "(II)I"⟩, (prog_12_method_84_code, (4, (some (.int), (3, (1, (1422, (1421, (57, 75)))))))))), (10, (⟨"CupsAndPeaModel", "passHere", "(I)V"⟩, (prog_12_method_85_code, (5, (none, (2, (1, (1414, (1413, (55, 75)))))))))), (10, (⟨"CupsAndPeaModel", "peaHere", "()V"⟩, (prog_12_method_86_code, (2, (none, (1, (1, (1427, (1426, (58, 75)))))))))), (10, (⟨"CupsAndPeaModel", "eyeHere", "()V"⟩, (prog_12_method_87_code, (3, (none, (1, (1, (1433, (1432, (59, 75))))))))))]
def zM_9 : List zMt := [(10, (⟨"CupsAndPeaModel", "playerHere", "()V"⟩, (prog_12_method_88_code, (5, (none, (1, (1, (1439, (1438, (60, 75)))))))))), (10, (⟨"CupsAndPeaModel", "item", "()V"⟩, (prog_12_method_89_code, (2, (none, (1, (1, (1395, (1394, (52, 75)))))))))), (10, (⟨"CupsAndPeaModel", "items", "()I"⟩, (prog_12_method_90_code, (2, (some (.int), (1, (1, (1374, (1373, (49, 75)))))))))), (10, (⟨"CupsAndPeaModel", "text", "()I"⟩, (prog_12_method_91_code, (2, (some (.int), (1, (1, (1370, (1368, (1369, 75)))))))))), (10, (⟨"CupsAndPeaModel", "hold", "(II)I"⟩, (prog_12_method_92_code, (3, (some (.int), (3, (1, (1446, (1444, (1445, 75)))))))))), (10, (⟨"CupsAndPeaModel", "above", "(I)I"⟩, (prog_12_method_93_code, (1, (some (.int), (1, (0, (1453, (1452, (0, 75)))))))))), (10, (⟨"CupsAndPeaModel", "as", "(II)I"⟩, (prog_12_method_94_code, (5, (some (.int), (3, (1, (1450, (1448, (1449, 75)))))))))), (10, (⟨"CupsAndPeaModel", "isSheet", "(I)Z"⟩, (prog_12_method_95_code, (1, (some (.boolean), (1, (0, (1460, (1459, (0, 75)))))))))), (10, (⟨"CupsAndPeaModel", "sheet", "(III)I"⟩, (prog_12_method_96_code, (5, (some (.int), (4, (1, (1457, (1455, (1456, 75)))))))))), (10, (⟨"CupsAndPeaModel", "whyNone", "(I)I"⟩, (prog_12_method_97_code, (2, (some (.int), (2, (1, (1468, (1467, (61, 75)))))))))), (10, (⟨"CupsAndPeaModel", "write", "(III)I"⟩, (prog_12_method_98_code, (5, (some (.int), (4, (1, (1464, (1462, (1463, 75)))))))))), (10, (⟨"CupsAndPeaModel", "copy", "(IIIII)I"⟩, (prog_12_method_99_code, (7, (some (.int), (6, (1, (1472, (1470, (1471, 75)))))))))), (10, (⟨"CupsAndPeaModel", "load", "(I)I"⟩, (prog_12_method_100_code, (4, (some (.int), (2, (1, (1476, (1474, (1475, 75)))))))))), (10, (⟨"CupsAndPeaModel", "judge", "(I)I"⟩, (prog_12_method_101_code, (4, (some (.int), (2, (1, (1480, (1478, (1479, 75)))))))))), (10, (⟨"CupsAndPeaModel", "image", "()I"⟩, (prog_12_method_102_code, (1, (some (.int), (1, (1, (1484, (1482, (1483, 75)))))))))), (10, (⟨"CupsAndPeaModel", "undo", "()I"⟩, (prog_12_method_103_code, (1, (some (.int), (1, (1, (1488, (1486, (1487, 75)))))))))), (10, (⟨"CupsAndPeaModel", "tea\x72", "()I"⟩, (prog_12_method_104_code, (2, (some (.int), (1, (1, (1492, (1490, (1491, 75)))))))))), (10, (⟨"CupsAndPeaModel", "sumOf", "(II)I"⟩, (prog_12_method_105_code, (5, (some (.int), (3, (1, (1500, (1499, (62, 75)))))))))), (10, (⟨"CupsAndPeaModel", "holding", "()I"⟩, (prog_12_method_106_code, (3, (some (.int), (1, (1, (1504, (1503, (63, 75)))))))))), (10, (⟨"CupsAndPeaModel", "count", "(I)I"⟩, (prog_12_method_107_code, (2, (some (.int), (2, (1, (1496, (1494, (1495, 75)))))))))), (10, (⟨"CupsAndPeaModel", "status", "(I)I"⟩, (prog_12_method_108_code, (4, (some (.int), (2, (1, (1508, (1506, (1507, 75))))))))))]
def zM : List zMt := zM_0 ++ (zM_1 ++ (zM_2 ++ (zM_3 ++ (zM_4 ++ (zM_5 ++ (zM_6 ++ (zM_7 ++ (zM_8 ++ (zM_9)))))))))
/-- what a method is: 1 it answers a boolean, 2 a constructor, 0 else -/
def zmode (q : zMt) : Nat := match q.2.2.2.2.1 with
  | some .boolean => 1
  | _ => if q.2.2.2.2.2.2.1 = 2 then 2 else 0
abbrev m_Eye_init : Nat := 0
abbrev m_Orders_init : Nat := 1
abbrev m_Orders_thatEnd : Nat := 2
abbrev m_Orders_goOn : Nat := 3
abbrev m_Orders_index : Nat := 4
abbrev m_Pass_init : Nat := 5
abbrev m_Pass_set : Nat := 6
abbrev m_Pass_third : Nat := 7
abbrev m_Pass_looksTo : Nat := 8
abbrev m_Pass_thingBehind : Nat := 9
abbrev m_Pass_whirled : Nat := 10
abbrev m_Pass_peaBehind : Nat := 11
abbrev m_Pass_slipOf : Nat := 12
abbrev m_Player_init : Nat := 13
abbrev m_Player_tells : Nat := 14
abbrev m_Player_become : Nat := 15
abbrev m_Player_become_ : Nat := 16
abbrev m_Player_hasLeft : Nat := 17
abbrev m_Player_stakes : Nat := 18
abbrev m_Player_brings : Nat := 19
abbrev m_Player_isGone : Nat := 20
abbrev m_Player_raised : Nat := 21
abbrev m_Player_lowered : Nat := 22
abbrev m_Player_mostOf : Nat := 23
abbrev m_Player_winningFirst : Nat := 24
abbrev m_Player_losingFirst : Nat := 25
abbrev m_Search_init : Nat := 26
abbrev m_Search_start : Nat := 27
abbrev m_Search_seek : Nat := 28
abbrev m_Search_choose : Nat := 29
abbrev m_Sheet_init : Nat := 30
abbrev m_Sheet_lay : Nat := 31
abbrev m_Sheet_put : Nat := 32
abbrev m_Sheet_has : Nat := 33
abbrev m_Sight_init : Nat := 34
abbrev m_Sight_follow : Nat := 35
abbrev m_Sight_see : Nat := 36
abbrev m_Sight_seenAt : Nat := 37
abbrev m_Sight_at : Nat := 38
abbrev m_Sight_likeliest : Nat := 39
abbrev m_Sight_likeliestWith : Nat := 40
abbrev m_Table_init : Nat := 41
abbrev m_Table_become : Nat := 42
abbrev m_Table_setCups : Nat := 43
abbrev m_Table_add : Nat := 44
abbrev m_Table_peaBehind : Nat := 45
abbrev m_Table_feintSets : Nat := 46
abbrev m_Table_peaWithFeints : Nat := 47
abbrev m_Table_playRound : Nat := 48
abbrev m_Table_whoLeft : Nat := 49
abbrev m_Table_draw : Nat := 50
abbrev m_Table_sumOfPlayers : Nat := 51
abbrev m_Table_sumOfSlips : Nat := 52
abbrev m_Table_fullSpots : Nat := 53
abbrev m_Tape_init : Nat := 54
abbrev m_Tape_put : Nat := 55
abbrev m_Tape_readOnto : Nat := 56
abbrev m_Tape_readItem : Nat := 57
abbrev m_Tape_kindNamed : Nat := 58
abbrev m_Tape_nameOfKind : Nat := 59
abbrev m_Tape_readPass : Nat := 60
abbrev m_Tape_readPea : Nat := 61
abbrev m_Tape_readEye : Nat := 62
abbrev m_Tape_readPlayer : Nat := 63
abbrev m_Tape_nameOfOwn : Nat := 64
abbrev m_Tape_takeNumber : Nat := 65
abbrev m_Tape_isWord : Nat := 66
abbrev m_Tape_step : Nat := 67
abbrev m_Tape_sortAt : Nat := 68
abbrev m_X_init : Nat := 69
abbrev m_X_cups : Nat := 70
abbrev m_X_pea : Nat := 71
abbrev m_X_pass : Nat := 72
abbrev m_X_of : Nat := 73
abbrev m_X_change : Nat := 74
abbrev m_X_back : Nat := 75
abbrev m_X_where : Nat := 76
abbrev m_X_goes : Nat := 77
abbrev m_X_moves : Nat := 78
abbrev m_X_eye : Nat := 79
abbrev m_X_weight : Nat := 80
abbrev m_X_guess : Nat := 81
abbrev m_X_right : Nat := 82
abbrev m_X_lost : Nat := 83
abbrev m_X_both : Nat := 84
abbrev m_X_may : Nat := 85
abbrev m_X_watch : Nat := 86
abbrev m_X_feint : Nat := 87
abbrev m_X_kindFor : Nat := 88
abbrev m_X_misled : Nat := 89
abbrev m_X_row : Nat := 90
abbrev m_X_feints : Nat := 91
abbrev m_X_surely : Nat := 92
abbrev m_X_rings : Nat := 93
abbrev m_X_orders : Nat := 94
abbrev m_X_player : Nat := 95
abbrev m_X_told : Nat := 96
abbrev m_X_round : Nat := 97
abbrev m_X_play : Nat := 98
abbrev m_X_best : Nat := 99
abbrev m_X_should : Nat := 100
abbrev m_X_richest : Nat := 101
abbrev m_X_now : Nat := 102
abbrev m_X_shuffle : Nat := 103
abbrev m_X_seed : Nat := 104
abbrev m_X_feed : Nat := 105
abbrev m_X_wipe : Nat := 106
abbrev m_X_text : Nat := 107
abbrev m_X_hold : Nat := 108
abbrev m_X_as : Nat := 109
abbrev m_X_sheet : Nat := 110
abbrev m_X_write : Nat := 111
abbrev m_X_copy : Nat := 112
abbrev m_X_load : Nat := 113
abbrev m_X_judge : Nat := 114
abbrev m_X_image : Nat := 115
abbrev m_X_undo : Nat := 116
abbrev m_X_tear : Nat := 117
abbrev m_X_count : Nat := 118
abbrev m_X_status : Nat := 119
abbrev m_X_tell : Nat := 120
abbrev m_X_likeliest : Nat := 121
abbrev m_X_rightOf : Nat := 122
abbrev m_X_rightIf : Nat := 123
abbrev m_X_isPlace : Nat := 124
abbrev m_X_isPlaceOrHand : Nat := 125
abbrev m_X_isPass : Nat := 126
abbrev m_X_isBehind : Nat := 127
abbrev m_X_isKind : Nat := 128
abbrev m_X_isEye : Nat := 129
abbrev m_X_isPlayer : Nat := 130
abbrev m_X_isRounds : Nat := 131
abbrev m_X_isSheet : Nat := 132
abbrev m_X_isBits : Nat := 133
abbrev m_X_within : Nat := 134
abbrev m_X_isUnder : Nat := 135
abbrev m_X_ringAt : Nat := 136
abbrev m_X_swapped : Nat := 137
abbrev m_X_next : Nat := 138
abbrev m_M_init : Nat := 139
abbrev m_M_finds : Nat := 140
abbrev m_M_in : Nat := 141
abbrev m_M_copies : Nat := 142
abbrev m_M_isPlace : Nat := 143
abbrev m_M_isPass : Nat := 144
abbrev m_M_isFour : Nat := 145
abbrev m_M_its : Nat := 146
abbrev m_M_third : Nat := 147
abbrev m_M_swapped : Nat := 148
abbrev m_M_cupBy : Nat := 149
abbrev m_M_peaBy : Nat := 150
abbrev m_M_seen : Nat := 151
abbrev m_M_cups : Nat := 152
abbrev m_M_pea : Nat := 153
abbrev m_M_comes : Nat := 154
abbrev m_M_pass : Nat := 155
abbrev m_M_of : Nat := 156
abbrev m_M_change : Nat := 157
abbrev m_M_back : Nat := 158
abbrev m_M_peaBehind : Nat := 159
abbrev m_M_where : Nat := 160
abbrev m_M_goes : Nat := 161
abbrev m_M_moves : Nat := 162
abbrev m_M_slips : Nat := 163
abbrev m_M_beginsBy : Nat := 164
abbrev m_M_looksAt : Nat := 165
abbrev m_M_watches : Nat := 166
abbrev m_M_heaviest : Nat := 167
abbrev m_M_eye : Nat := 168
abbrev m_M_weight : Nat := 169
abbrev m_M_guessBehind : Nat := 170
abbrev m_M_guess : Nat := 171
abbrev m_M_rightNow : Nat := 172
abbrev m_M_rightOf : Nat := 173
abbrev m_M_right : Nat := 174
abbrev m_M_lost : Nat := 175
abbrev m_M_both : Nat := 176
abbrev m_M_may : Nat := 177
abbrev m_M_watch : Nat := 178
abbrev m_M_rightAs : Nat := 179
abbrev m_M_feint : Nat := 180
abbrev m_M_kindFor : Nat := 181
abbrev m_M_layPairs : Nat := 182
abbrev m_M_pairOf : Nat := 183
abbrev m_M_findMisled : Nat := 184
abbrev m_M_whyMisled : Nat := 185
abbrev m_M_misled : Nat := 186
abbrev m_M_row : Nat := 187
abbrev m_M_findFeints : Nat := 188
abbrev m_M_isWhere : Nat := 189
abbrev m_M_feints : Nat := 190
abbrev m_M_surely : Nat := 191
abbrev m_M_power : Nat := 192
abbrev m_M_rings : Nat := 193
abbrev m_M_orders : Nat := 194
abbrev m_M_whose : Nat := 195
abbrev m_M_sets : Nat := 196
abbrev m_M_hasLeft : Nat := 197
abbrev m_M_player : Nat := 198
abbrev m_M_told : Nat := 199
abbrev m_M_aRound : Nat := 200
abbrev m_M_round : Nat := 201
abbrev m_M_play : Nat := 202
abbrev m_M_tries : Nat := 203
abbrev m_M_bestOf : Nat := 204
abbrev m_M_best : Nat := 205
abbrev m_M_should : Nat := 206
abbrev m_M_richest : Nat := 207
abbrev m_M_now : Nat := 208
abbrev m_M_drawn : Nat := 209
abbrev m_M_shuffle : Nat := 210
abbrev m_M_seed : Nat := 211
abbrev m_M_feed : Nat := 212
abbrev m_M_wipe : Nat := 213
abbrev m_M_letter : Nat := 214
abbrev m_M_isDigit : Nat := 215
abbrev m_M_byteAt : Nat := 216
abbrev m_M_next : Nat := 217
abbrev m_M_wrongHere : Nat := 218
abbrev m_M_isWord : Nat := 219
abbrev m_M_kindHere : Nat := 220
abbrev m_M_numberHere : Nat := 221
abbrev m_M_passHere : Nat := 222
abbrev m_M_peaHere : Nat := 223
abbrev m_M_eyeHere : Nat := 224
abbrev m_M_playerHere : Nat := 225
abbrev m_M_item : Nat := 226
abbrev m_M_items : Nat := 227
abbrev m_M_text : Nat := 228
abbrev m_M_hold : Nat := 229
abbrev m_M_above : Nat := 230
abbrev m_M_as : Nat := 231
abbrev m_M_isSheet : Nat := 232
abbrev m_M_sheet : Nat := 233
abbrev m_M_whyNone : Nat := 234
abbrev m_M_write : Nat := 235
abbrev m_M_copy : Nat := 236
abbrev m_M_load : Nat := 237
abbrev m_M_judge : Nat := 238
abbrev m_M_image : Nat := 239
abbrev m_M_undo : Nat := 240
abbrev m_M_tear : Nat := 241
abbrev m_M_sumOf : Nat := 242
abbrev m_M_holding : Nat := 243
abbrev m_M_count : Nat := 244
abbrev m_M_status : Nat := 245
end
section
/-! THE TABLES ARE THOSE OF THE STATEMENT: each resolved entry beside its word. Written by program (wip/whole/chk.py). -/
/-- the script, the static rows, the texts: how long, what stands in them -/
def zstat (j : Nat) : String × (String × String) := match j with
  | 1 => ("CupsAndPea", "ABOVE", "[I")
  | 2 => ("CupsAndPea", "PLAYER_LEAST", "[I")
  | _ => ("CupsAndPea", "PLAYER_MOST", "[I")
def ztext (j : Nat) : String := match j with
  | 4 => "pass"
  | 5 => "feint"
  | 6 => "lift"
  | 7 => "drop"
  | 8 => "whirl"
  | 9 => "slow"
  | 10 => "quick"
  | 11 => "pea"
  | 12 => "hand"
  | 13 => "eye"
  | 14 => "slip"
  | 15 => "playe\x72"
  | 16 => "purse"
  | 17 => "stake"
  | _ => "bears"
/-- the word that an entry of the pool stands for -/
def zwant (own ix : Nat) (i : Instr) (c : Cond) : Bool := match i with
  | .getfield n => decide (n / 256 < 11) && decide (n / 4 % 64 < znf (n / 256)) && decide (c = .fieldLink (znm own) ix (zfT n).1 (zfT n).2.1 (zfT n).2.2.1) && decide ((zfT n).1 = znm (n / 256)) && (match n % 4 with
    | 0 => decide (zty (n / 256) (n / 4 % 64) = .int)
    | 1 => decide (zty (n / 256) (n / 4 % 64) = .long)
    | 2 => decide (zty (n / 256) (n / 4 % 64) = .boolean)
    | _ => decide (fits (zty (n / 256) (n / 4 % 64)) .null = true))
  | .getstatic j => decide (1 ≤ j ∧ j ≤ 3) && (match c with
    | .fieldLink o x r n d => decide (o = znm own ∧ x = ix ∧ r = (zstat j).1 ∧ n = (zstat j).2.1 ∧ d = (zstat j).2.2)
    | .fieldLinkNest o x r n d _ => decide (o = znm own ∧ x = ix ∧ r = (zstat j).1 ∧ n = (zstat j).2.1 ∧ d = (zstat j).2.2)
    | _ => false)
  | .ldc j => decide (4 ≤ j ∧ j ≤ 18) && decide (c = .stringRef (znm own) ix (ztext j))
  | .iconst n => decide (-2147483648 ≤ n ∧ n < 2147483648) && decide (c = .constant (znm own) ix (Int32.ofInt n))
  | .sipush n => decide (-9223372036854775808 ≤ n ∧ n < 9223372036854775808) && decide (c = .constantLong (znm own) ix (Int64.ofInt n))
  | .new n => decide (n / 256 < 11) && decide (n % 256 = znf (n / 256)) && decide (c = .classLink (znm own) ix (znm (n / 256)))
  | .multianewarray _ _ => decide (c = .classLink (znm own) ix "[[J")
  | .invokevirtual n => (match zM[n / 1024]? with
    | some q => decide (q.2.2.2.2.2.2.1 = 1 ∧ q.1 = n / 16 % 64 ∧ q.2.2.2.2.2.1 = n % 16) && (match c with
      | .methodLink o x y => decide (o = znm own ∧ x = ix ∧ y = q.2.1)
      | .methodLinkNest o x y _ => decide (o = znm own ∧ x = ix ∧ y = q.2.1)
      | _ => false)
    | none => false)
  | .invokespecial n => (match zM[n / 1024]? with
    | some q => decide (q.2.2.2.2.2.2.1 = 2 ∧ q.1 = n / 16 % 64 ∧ q.2.2.2.2.2.1 = n % 16) && (match c with
      | .methodLink o x y => decide (o = znm own ∧ x = ix ∧ y = q.2.1)
      | .methodLinkNest o x y _ => decide (o = znm own ∧ x = ix ∧ y = q.2.1)
      | _ => false)
    | none => false)
  | .invokestatic n => (match zM[n / 1024]? with
    | some q => decide (q.2.2.2.2.2.2.1 = 0 ∧ q.2.2.2.2.2.1 = n % 16) && (match c with
      | .methodLink o x y => decide (o = znm own ∧ x = ix ∧ y = q.2.1)
      | .methodLinkNest o x y _ => decide (o = znm own ∧ x = ix ∧ y = q.2.1)
      | _ => false)
    | none => false)
  | .fadd => decide (c = .methodLink (znm own) ix Lib.Math.min.name)
  | .fsub => decide (c = .methodLink (znm own) ix Lib.Math.max.name)
  | .swap => decide (c = .methodLink (znm own) ix arraycopyName)
  | .nop => decide (c = .methodLink (znm own) ix objectInit)
  | .dadd => decide (c = .methodLink (znm own) ix ⟨"java/lang/String", "length", "()I"⟩)
  | .dsub => decide (c = .methodLink (znm own) ix ⟨"java/lang/String", "charAt", "(I)C"⟩)
  | _ => false
def zpchk (e : Nat × (Nat × (Instr × Nat))) : Bool := match lw_tbl[e.2.2.2]? with
  | some c => zwant e.1 e.2.1 e.2.2.1 c
  | none => false
theorem zpool_ok_0 : zpool_0.all zpchk = true := by decide +kernel
theorem zpool_ok_1 : zpool_1.all zpchk = true := by decide +kernel
theorem zpool_ok_2 : zpool_2.all zpchk = true := by decide +kernel
theorem zpool_ok_3 : zpool_3.all zpchk = true := by decide +kernel
theorem zpool_ok_4 : zpool_4.all zpchk = true := by decide +kernel
theorem zpool_ok_5 : zpool_5.all zpchk = true := by decide +kernel
theorem zpool_ok_6 : zpool_6.all zpchk = true := by decide +kernel
theorem zpool_ok_7 : zpool_7.all zpchk = true := by decide +kernel
theorem zpool_ok_8 : zpool_8.all zpchk = true := by decide +kernel
theorem zpool_ok : zpool.all zpchk = true := by
  unfold zpool
  simp only [List.all_append, zpool_ok_0, zpool_ok_1, zpool_ok_2, zpool_ok_3, zpool_ok_4, zpool_ok_5, zpool_ok_6, zpool_ok_7, zpool_ok_8, Bool.and_self]
/-- the words of a method -/
def zmchk (q : zMt) : Bool := decide (q.1 < 11) && decide (znm q.1 = q.2.1.cls) && decide (lw_tbl[q.2.2.2.2.2.2.2.1]? = some (.code q.2.1 q.2.2.1 q.2.2.2.1 q.2.2.2.2.1)) && decide (lw_tbl[q.2.2.2.2.2.2.2.2.2.2]? = some (.initialized q.2.1.cls)) && decide (q.2.2.2.1 ≤ 13) && (match q.2.2.2.2.2.2.1 with
  | 0 => decide (lw_tbl[q.2.2.2.2.2.2.2.2.1]? = some (.static q.2.1)) && decide ((parseMethodDescriptor q.2.1.desc).map (fun d => d.parameters.length) = some q.2.2.2.2.2.1)
  | 1 => decide (lw_tbl[q.2.2.2.2.2.2.2.2.1]? = some (.instanceMethod q.2.1)) && decide (lw_tbl[q.2.2.2.2.2.2.2.2.2.1]? = some (.selects q.2.1.cls q.2.1 q.2.1)) && decide ((parseMethodDescriptor q.2.1.desc).map (fun d => d.parameters.length + 1) = some q.2.2.2.2.2.1)
  | _ => decide (q.2.1.name = "<init>" ∧ q.2.2.2.2.1 = none) && decide (lw_tbl[q.2.2.2.2.2.2.2.2.1]? = some (.instanceMethod q.2.1)) && decide ((parseMethodDescriptor q.2.1.desc).map (fun d => d.parameters.length + 1) = some q.2.2.2.2.2.1)) && decide (plainName q.2.1.cls = true)
theorem zM_ok_0 : zM_0.all zmchk = true := by decide +kernel
theorem zM_ok_1 : zM_1.all zmchk = true := by decide +kernel
theorem zM_ok_2 : zM_2.all zmchk = true := by decide +kernel
theorem zM_ok_3 : zM_3.all zmchk = true := by decide +kernel
theorem zM_ok_4 : zM_4.all zmchk = true := by decide +kernel
theorem zM_ok_5 : zM_5.all zmchk = true := by decide +kernel
theorem zM_ok_6 : zM_6.all zmchk = true := by decide +kernel
theorem zM_ok_7 : zM_7.all zmchk = true := by decide +kernel
theorem zM_ok_8 : zM_8.all zmchk = true := by decide +kernel
theorem zM_ok_9 : zM_9.all zmchk = true := by decide +kernel
theorem zM_ok : zM.all zmchk = true := by
  unfold zM
  simp only [List.all_append, zM_ok_0, zM_ok_1, zM_ok_2, zM_ok_3, zM_ok_4, zM_ok_5, zM_ok_6, zM_ok_7, zM_ok_8, zM_ok_9, Bool.and_self]
theorem zws_0 : ∀ w ∈ u_ws zR0 zT0 2, w ∈ lw_tbl := by decide +kernel
theorem zty_0 : ∀ k, k < 2 → parseFieldDescriptor (zT0 k).2.2.1 = some (zty 0 k) := by decide +kernel
theorem znd_0 : ∀ a, a < 2 → ∀ b, b < 2 → a ≠ b → (zT0 a).2.1 ≠ (zT0 b).2.1 := by decide +kernel
theorem zws_1 : ∀ w ∈ u_ws zR1 zT1 1, w ∈ lw_tbl := by decide +kernel
theorem zty_1 : ∀ k, k < 1 → parseFieldDescriptor (zT1 k).2.2.1 = some (zty 1 k) := by decide +kernel
theorem znd_1 : ∀ a, a < 1 → ∀ b, b < 1 → a ≠ b → (zT1 a).2.1 ≠ (zT1 b).2.1 := by decide +kernel
theorem zws_2 : ∀ w ∈ u_ws zR2 zT2 3, w ∈ lw_tbl := by decide +kernel
theorem zty_2 : ∀ k, k < 3 → parseFieldDescriptor (zT2 k).2.2.1 = some (zty 2 k) := by decide +kernel
theorem znd_2 : ∀ a, a < 3 → ∀ b, b < 3 → a ≠ b → (zT2 a).2.1 ≠ (zT2 b).2.1 := by decide +kernel
theorem zws_3 : ∀ w ∈ u_ws zR3 zT3 4, w ∈ lw_tbl := by decide +kernel
theorem zty_3 : ∀ k, k < 4 → parseFieldDescriptor (zT3 k).2.2.1 = some (zty 3 k) := by decide +kernel
theorem znd_3 : ∀ a, a < 4 → ∀ b, b < 4 → a ≠ b → (zT3 a).2.1 ≠ (zT3 b).2.1 := by decide +kernel
theorem zws_4 : ∀ w ∈ u_ws zR4 zT4 7, w ∈ lw_tbl := by decide +kernel
theorem zty_4 : ∀ k, k < 7 → parseFieldDescriptor (zT4 k).2.2.1 = some (zty 4 k) := by decide +kernel
theorem znd_4 : ∀ a, a < 7 → ∀ b, b < 7 → a ≠ b → (zT4 a).2.1 ≠ (zT4 b).2.1 := by decide +kernel
theorem zws_5 : ∀ w ∈ u_ws zR5 zT5 3, w ∈ lw_tbl := by decide +kernel
theorem zty_5 : ∀ k, k < 3 → parseFieldDescriptor (zT5 k).2.2.1 = some (zty 5 k) := by decide +kernel
theorem znd_5 : ∀ a, a < 3 → ∀ b, b < 3 → a ≠ b → (zT5 a).2.1 ≠ (zT5 b).2.1 := by decide +kernel
theorem zws_6 : ∀ w ∈ u_ws zR6 zT6 1, w ∈ lw_tbl := by decide +kernel
theorem zty_6 : ∀ k, k < 1 → parseFieldDescriptor (zT6 k).2.2.1 = some (zty 6 k) := by decide +kernel
theorem znd_6 : ∀ a, a < 1 → ∀ b, b < 1 → a ≠ b → (zT6 a).2.1 ≠ (zT6 b).2.1 := by decide +kernel
theorem zws_7 : ∀ w ∈ u_ws zR7 zT7 9, w ∈ lw_tbl := by decide +kernel
theorem zty_7 : ∀ k, k < 9 → parseFieldDescriptor (zT7 k).2.2.1 = some (zty 7 k) := by decide +kernel
theorem znd_7 : ∀ a, a < 9 → ∀ b, b < 9 → a ≠ b → (zT7 a).2.1 ≠ (zT7 b).2.1 := by decide +kernel
theorem zws_8 : ∀ w ∈ u_ws zR8 zT8 6, w ∈ lw_tbl := by decide +kernel
theorem zty_8 : ∀ k, k < 6 → parseFieldDescriptor (zT8 k).2.2.1 = some (zty 8 k) := by decide +kernel
theorem znd_8 : ∀ a, a < 6 → ∀ b, b < 6 → a ≠ b → (zT8 a).2.1 ≠ (zT8 b).2.1 := by decide +kernel
theorem zws_9 : ∀ w ∈ u_ws zR9 zT9 11, w ∈ lw_tbl := by decide +kernel
theorem zty_9 : ∀ k, k < 11 → parseFieldDescriptor (zT9 k).2.2.1 = some (zty 9 k) := by decide +kernel
theorem znd_9 : ∀ a, a < 11 → ∀ b, b < 11 → a ≠ b → (zT9 a).2.1 ≠ (zT9 b).2.1 := by decide +kernel
theorem zws_10 : ∀ w ∈ u_ws zR10 zT10 31, w ∈ lw_tbl := by decide +kernel
theorem zty_10 : ∀ k, k < 31 → parseFieldDescriptor (zT10 k).2.2.1 = some (zty 10 k) := by decide +kernel
theorem znd_10 : ∀ a, a < 31 → ∀ b, b < 31 → a ≠ b → (zT10 a).2.1 ≠ (zT10 b).2.1 := by decide +kernel
/-- what is said of class c -/
def zclass (c : Nat) : Prop := zcl[c]? = some (znm c, zTT c, znf c) ∧ (∀ w ∈ u_ws (znm c) (zTT c) (znf c), w ∈ lw_tbl) ∧ (∀ k, k < znf c → parseFieldDescriptor (zTT c k).2.2.1 = some (zty c k)) ∧ (∀ a, a < znf c → ∀ b, b < znf c → a ≠ b → (zTT c a).2.1 ≠ (zTT c b).2.1) ∧ Cond.instantiable (znm c) (znf c) ∈ lw_tbl ∧ Cond.initialized (znm c) ∈ lw_tbl
theorem zclass_0 : zclass 0 := ⟨rfl, zws_0, zty_0, znd_0, List.mem_of_getElem? (i := 125) (by decide +kernel), List.mem_of_getElem? (i := 68) (by decide +kernel)⟩
theorem zclass_1 : zclass 1 := ⟨rfl, zws_1, zty_1, znd_1, List.mem_of_getElem? (i := 266) (by decide +kernel), List.mem_of_getElem? (i := 72) (by decide +kernel)⟩
theorem zclass_2 : zclass 2 := ⟨rfl, zws_2, zty_2, znd_2, List.mem_of_getElem? (i := 102) (by decide +kernel), List.mem_of_getElem? (i := 67) (by decide +kernel)⟩
theorem zclass_3 : zclass 3 := ⟨rfl, zws_3, zty_3, znd_3, List.mem_of_getElem? (i := 145) (by decide +kernel), List.mem_of_getElem? (i := 69) (by decide +kernel)⟩
theorem zclass_4 : zclass 4 := ⟨rfl, zws_4, zty_4, znd_4, List.mem_of_getElem? (i := 234) (by decide +kernel), List.mem_of_getElem? (i := 71) (by decide +kernel)⟩
theorem zclass_5 : zclass 5 := ⟨rfl, zws_5, zty_5, znd_5, List.mem_of_getElem? (i := 304) (by decide +kernel), List.mem_of_getElem? (i := 74) (by decide +kernel)⟩
theorem zclass_6 : zclass 6 := ⟨rfl, zws_6, zty_6, znd_6, List.mem_of_getElem? (i := 221) (by decide +kernel), List.mem_of_getElem? (i := 70) (by decide +kernel)⟩
theorem zclass_7 : zclass 7 := ⟨rfl, zws_7, zty_7, znd_7, List.mem_of_getElem? (i := 91) (by decide +kernel), List.mem_of_getElem? (i := 66) (by decide +kernel)⟩
theorem zclass_8 : zclass 8 := ⟨rfl, zws_8, zty_8, znd_8, List.mem_of_getElem? (i := 276) (by decide +kernel), List.mem_of_getElem? (i := 73) (by decide +kernel)⟩
theorem zclass_9 : zclass 9 := ⟨rfl, zws_9, zty_9, znd_9, List.mem_of_getElem? (i := 83) (by decide +kernel), List.mem_of_getElem? (i := 65) (by decide +kernel)⟩
theorem zclass_10 : zclass 10 := ⟨rfl, zws_10, zty_10, znd_10, List.mem_of_getElem? (i := 968) (by decide +kernel), List.mem_of_getElem? (i := 75) (by decide +kernel)⟩
theorem zclass_ok : ∀ c, c < 11 → zclass c
  | 0, _ => zclass_0
  | 1, _ => zclass_1
  | 2, _ => zclass_2
  | 3, _ => zclass_3
  | 4, _ => zclass_4
  | 5, _ => zclass_5
  | 6, _ => zclass_6
  | 7, _ => zclass_7
  | 8, _ => zclass_8
  | 9, _ => zclass_9
  | 10, _ => zclass_10
  | n + 11, h => absurd h (by omega)
end
section
/-! THE CODE of each method as small steps, and that it is that of its bytes: written by program. -/
def zc_Eye_init : List (Nat × (Instr × Nat)) := [(0, (.aload 0, 1)), (1, (.nop, 4)), (4, (.aload 0, 5)), (5, (.iconst 2, 6)), (6, (.putfield 0, 9)), (9, (.aload 0, 10)), (10, (.iconst 0, 11)), (11, (.putfield 4, 14)), (14, (.return_, 15))]
def zc_Orders_init : List (Nat × (Instr × Nat)) := [(0, (.aload 0, 1)), (1, (.nop, 4)), (4, (.aload 0, 5)), (5, (.iconst 896, 8)), (8, (.newarray .int, 10)), (10, (.putfield 259, 13)), (13, (.return_, 14))]
def zc_Orders_thatEnd : List (Nat × (Instr × Nat)) := [(0, (.iconst 1, 1)), (1, (.aload 1, 2)), (2, (.getfield 1800, 5)), (5, (.iconst 7, 7)), (7, (.fadd, 10)), (10, (.ishl, 11)), (11, (.istore 3, 12)), (12, (.iconst 0, 13)), (13, (.istore 4, 15)), (15, (.iload 4, 17)), (17, (.iload 3, 18)), (18, (.iconst 7, 20)), (20, (.imul, 21)), (21, (.if_icmp .ge 38, 24)), (24, (.aload 0, 25)), (25, (.getfield 259, 28)), (28, (.iload 4, 30)), (30, (.iconst 0, 31)), (31, (.iastore, 32)), (32, (.iinc 4 1, 35)), (35, (.goto 15, 38)), (38, (.aload 0, 39)), (39, (.getfield 259, 42)), (42, (.iconst 0, 43)), (43, (.aload 1, 44)), (44, (.getfield 1796, 47)), (47, (.invokestatic 4098, 50)), (50, (.iconst 1, 51)), (51, (.iastore, 52)), (52, (.iconst 0, 53)), (53, (.istore 4, 55)), (55, (.iload 4, 57)), (57, (.iload 3, 58)), (58, (.if_icmp .ge 94, 61)), (61, (.iconst (-1), 62)), (62, (.istore 5, 64)), (64, (.iload 5, 66)), (66, (.aload 1, 67)), (67, (.getfield 1792, 70)), (70, (.if_icmp .ge 88, 73)), (73, (.aload 0, 74)), (74, (.aload 1, 75)), (75, (.iload 4, 77)), (77, (.iload 5, 79)), (79, (.invokevirtual 3092, 82)), (82, (.iinc 5 1, 85)), (85, (.goto 64, 88)), (88, (.iinc 4 1, 91)), (91, (.goto 55, 94)), (94, (.aload 0, 95)), (95, (.getfield 259, 98)), (98, (.iload 3, 99)), (99, (.iconst 1, 100)), (100, (.isub, 101)), (101, (.iload 2, 102)), (102, (.invokestatic 4098, 105)), (105, (.iaload, 106)), (106, (.ireturn, 107))]
def zc_Orders_goOn : List (Nat × (Instr × Nat)) := [(0, (.aload 0, 1)), (1, (.getfield 259, 4)), (4, (.iload 2, 5)), (5, (.iload 3, 6)), (6, (.invokestatic 4098, 9)), (9, (.iaload, 10)), (10, (.istore 4, 12)), (12, (.iload 4, 14)), (14, (.ifCond .ne 18, 17)), (17, (.return_, 18)), (18, (.iconst 0, 19)), (19, (.istore 5, 21)), (21, (.iload 5, 23)), (23, (.aload 1, 24)), (24, (.getfield 1800, 27)), (27, (.if_icmp .ge 75, 30)), (30, (.iload 2, 31)), (31, (.iconst 1, 32)), (32, (.iload 5, 34)), (34, (.ishl, 35)), (35, (.iand, 36)), (36, (.ifCond .ne 69, 39)), (39, (.aload 0, 40)), (40, (.getfield 259, 43)), (43, (.iload 2, 44)), (44, (.iconst 1, 45)), (45, (.iload 5, 47)), (47, (.ishl, 48)), (48, (.ior, 49)), (49, (.aload 1, 50)), (50, (.getfield 1815, 53)), (53, (.iload 5, 55)), (55, (.aaload, 56)), (56, (.iload 3, 57)), (57, (.invokevirtual 11298, 60)), (60, (.invokestatic 4098, 63)), (63, (.dup2, 64)), (64, (.iaload, 65)), (65, (.iload 4, 67)), (67, (.iadd, 68)), (68, (.iastore, 69)), (69, (.iinc 5 1, 72)), (72, (.goto 21, 75)), (75, (.return_, 76))]
def zc_Orders_index : List (Nat × (Instr × Nat)) := [(0, (.iload 0, 1)), (1, (.iconst 7, 3)), (3, (.imul, 4)), (4, (.iload 1, 5)), (5, (.iadd, 6)), (6, (.iconst 1, 7)), (7, (.iadd, 8)), (8, (.ireturn, 9))]
def zc_Pass_init : List (Nat × (Instr × Nat)) := [(0, (.aload 0, 1)), (1, (.nop, 4)), (4, (.aload 0, 5)), (5, (.iconst 0, 6)), (6, (.putfield 512, 9)), (9, (.aload 0, 10)), (10, (.iconst 0, 11)), (11, (.putfield 516, 14)), (14, (.aload 0, 15)), (15, (.iconst 1, 16)), (16, (.putfield 520, 19)), (19, (.return_, 20))]
def zc_Pass_set : List (Nat × (Instr × Nat)) := [(0, (.aload 0, 1)), (1, (.iload 1, 2)), (2, (.putfield 512, 5)), (5, (.aload 0, 6)), (6, (.iload 2, 7)), (7, (.putfield 516, 10)), (10, (.aload 0, 11)), (11, (.iload 3, 12)), (12, (.putfield 520, 15)), (15, (.return_, 16))]
def zc_Pass_third : List (Nat × (Instr × Nat)) := [(0, (.iconst 0, 1)), (1, (.istore 1, 2)), (2, (.iload 1, 3)), (3, (.iconst 3, 4)), (4, (.if_icmp .ge 31, 7)), (7, (.iload 1, 8)), (8, (.aload 0, 9)), (9, (.getfield 516, 12)), (12, (.if_icmp .eq 25, 15)), (15, (.iload 1, 16)), (16, (.aload 0, 17)), (17, (.getfield 520, 20)), (20, (.if_icmp .eq 25, 23)), (23, (.iload 1, 24)), (24, (.ireturn, 25)), (25, (.iinc 1 1, 28)), (28, (.goto 2, 31)), (31, (.iconst 0, 32)), (32, (.ireturn, 33))]
def zc_Pass_looksTo : List (Nat × (Instr × Nat)) := [(0, (.aload 0, 1)), (1, (.getfield 512, 4)), (4, (.iconst 4, 5)), (5, (.if_icmp .ne 15, 8)), (8, (.aload 0, 9)), (9, (.invokevirtual 7201, 12)), (12, (.goto 19, 15)), (15, (.aload 0, 16)), (16, (.getfield 520, 19)), (19, (.ireturn, 20))]
def zc_Pass_thingBehind : List (Nat × (Instr × Nat)) := [(0, (.aload 0, 1)), (1, (.getfield 512, 4)), (4, (.lookupswitch 40 #[(1, 32), (4, 34)], 32)), (32, (.iload 1, 33)), (33, (.ireturn, 34)), (34, (.aload 0, 35)), (35, (.iload 1, 36)), (36, (.invokevirtual 10274, 39)), (39, (.ireturn, 40)), (40, (.aload 0, 41)), (41, (.getfield 516, 44)), (44, (.aload 0, 45)), (45, (.getfield 520, 48)), (48, (.iload 1, 49)), (49, (.invokestatic 140291, 52)), (52, (.ireturn, 53))]
def zc_Pass_whirled : List (Nat × (Instr × Nat)) := [(0, (.aload 0, 1)), (1, (.invokevirtual 7201, 4)), (4, (.istore 2, 5)), (5, (.iload 1, 6)), (6, (.aload 0, 7)), (7, (.getfield 516, 10)), (10, (.if_icmp .ne 20, 13)), (13, (.aload 0, 14)), (14, (.getfield 520, 17)), (17, (.goto 45, 20)), (20, (.iload 1, 21)), (21, (.aload 0, 22)), (22, (.getfield 520, 25)), (25, (.if_icmp .ne 32, 28)), (28, (.iload 2, 29)), (29, (.goto 45, 32)), (32, (.iload 1, 33)), (33, (.iload 2, 34)), (34, (.if_icmp .ne 44, 37)), (37, (.aload 0, 38)), (38, (.getfield 516, 41)), (41, (.goto 45, 44)), (44, (.iload 1, 45)), (45, (.ireturn, 46))]
def zc_Pass_peaBehind : List (Nat × (Instr × Nat)) := [(0, (.aload 0, 1)), (1, (.getfield 512, 4)), (4, (.iconst 2, 5)), (5, (.if_icmp .ne 18, 8)), (8, (.iload 1, 9)), (9, (.aload 0, 10)), (10, (.getfield 516, 13)), (13, (.if_icmp .ne 18, 16)), (16, (.iconst (-1), 17)), (17, (.ireturn, 18)), (18, (.aload 0, 19)), (19, (.getfield 512, 22)), (22, (.iconst 3, 23)), (23, (.if_icmp .ne 36, 26)), (26, (.iload 1, 27)), (27, (.iconst (-1), 28)), (28, (.if_icmp .ne 36, 31)), (31, (.aload 0, 32)), (32, (.getfield 520, 35)), (35, (.ireturn, 36)), (36, (.aload 0, 37)), (37, (.iload 1, 38)), (38, (.invokevirtual 9250, 41)), (41, (.ireturn, 42))]
def zc_Pass_slipOf : List (Nat × (Instr × Nat)) := [(0, (.aload 0, 1)), (1, (.getfield 512, 4)), (4, (.lookupswitch 43 #[(5, 32), (6, 34)], 32)), (32, (.iconst 0, 33)), (33, (.ireturn, 34)), (34, (.iconst 2, 35)), (35, (.iload 1, 36)), (36, (.imul, 37)), (37, (.iconst 10, 39)), (39, (.fadd, 42)), (42, (.ireturn, 43)), (43, (.iload 1, 44)), (44, (.ireturn, 45))]
def zc_Player_init : List (Nat × (Instr × Nat)) := [(0, (.aload 0, 1)), (1, (.nop, 4)), (4, (.aload 0, 5)), (5, (.iconst 50, 7)), (7, (.putfield 768, 10)), (10, (.aload 0, 11)), (11, (.iconst 4, 12)), (12, (.putfield 772, 15)), (15, (.aload 0, 16)), (16, (.iconst 2, 17)), (17, (.putfield 776, 20)), (20, (.aload 0, 21)), (21, (.iconst 0, 22)), (22, (.putfield 780, 25)), (25, (.return_, 26))]
def zc_Player_tells : List (Nat × (Instr × Nat)) := [(0, (.iload 1, 1)), (1, (.tableswitch 52 (0) (3) #[32, 37, 42, 47], 32)), (32, (.aload 0, 33)), (33, (.getfield 768, 36)), (36, (.ireturn, 37)), (37, (.aload 0, 38)), (38, (.getfield 772, 41)), (41, (.ireturn, 42)), (42, (.aload 0, 43)), (43, (.getfield 776, 46)), (46, (.ireturn, 47)), (47, (.aload 0, 48)), (48, (.getfield 780, 51)), (51, (.ireturn, 52)), (52, (.aload 0, 53)), (53, (.invokevirtual 17457, 56)), (56, (.ifCond .eq 63, 59)), (59, (.iconst 1, 60)), (60, (.goto 64, 63)), (63, (.iconst 0, 64)), (64, (.ireturn, 65))]
def zc_Player_become : List (Nat × (Instr × Nat)) := [(0, (.iload 1, 1)), (1, (.lookupswitch 44 #[(0, 28), (1, 36)], 28)), (28, (.aload 0, 29)), (29, (.iload 2, 30)), (30, (.putfield 768, 33)), (33, (.goto 49, 36)), (36, (.aload 0, 37)), (37, (.iload 2, 38)), (38, (.putfield 772, 41)), (41, (.goto 49, 44)), (44, (.aload 0, 45)), (45, (.iload 2, 46)), (46, (.putfield 776, 49)), (49, (.return_, 50))]
def zc_Player_become_ : List (Nat × (Instr × Nat)) := [(0, (.aload 0, 1)), (1, (.aload 1, 2)), (2, (.getfield 768, 5)), (5, (.putfield 768, 8)), (8, (.aload 0, 9)), (9, (.aload 1, 10)), (10, (.getfield 772, 13)), (13, (.putfield 772, 16)), (16, (.aload 0, 17)), (17, (.aload 1, 18)), (18, (.getfield 776, 21)), (21, (.putfield 776, 24)), (24, (.aload 0, 25)), (25, (.aload 1, 26)), (26, (.getfield 780, 29)), (29, (.putfield 780, 32)), (32, (.return_, 33))]
def zc_Player_hasLeft : List (Nat × (Instr × Nat)) := [(0, (.aload 0, 1)), (1, (.getfield 768, 4)), (4, (.aload 0, 5)), (5, (.getfield 780, 8)), (8, (.aload 0, 9)), (9, (.getfield 776, 12)), (12, (.invokestatic 20483, 15)), (15, (.freturn, 16))]
def zc_Player_stakes : List (Nat × (Instr × Nat)) := [(0, (.aload 0, 1)), (1, (.getfield 772, 4)), (4, (.aload 0, 5)), (5, (.getfield 768, 8)), (8, (.fadd, 11)), (11, (.istore 2, 12)), (12, (.aload 0, 13)), (13, (.iload 1, 14)), (14, (.ifCond .eq 26, 17)), (17, (.aload 0, 18)), (18, (.getfield 768, 21)), (21, (.iload 2, 22)), (22, (.iadd, 23)), (23, (.goto 32, 26)), (26, (.aload 0, 27)), (27, (.getfield 768, 30)), (30, (.iload 2, 31)), (31, (.isub, 32)), (32, (.putfield 768, 35)), (35, (.aload 0, 36)), (36, (.iload 1, 37)), (37, (.ifCond .eq 50, 40)), (40, (.aload 0, 41)), (41, (.getfield 772, 44)), (44, (.invokestatic 21505, 47)), (47, (.goto 57, 50)), (50, (.aload 0, 51)), (51, (.getfield 772, 54)), (54, (.invokestatic 22529, 57)), (57, (.putfield 772, 60)), (60, (.aload 0, 61)), (61, (.iload 1, 62)), (62, (.ifCond .eq 69, 65)), (65, (.iconst 0, 66)), (66, (.goto 75, 69)), (69, (.aload 0, 70)), (70, (.getfield 780, 73)), (73, (.iconst 1, 74)), (74, (.iadd, 75)), (75, (.putfield 780, 78)), (78, (.iload 2, 79)), (79, (.ireturn, 80))]
def zc_Player_brings : List (Nat × (Instr × Nat)) := [(0, (.aload 0, 1)), (1, (.getfield 768, 4)), (4, (.aload 0, 5)), (5, (.getfield 772, 8)), (8, (.aload 0, 9)), (9, (.getfield 780, 12)), (12, (.aload 0, 13)), (13, (.getfield 776, 16)), (16, (.iload 1, 17)), (17, (.invokestatic 23557, 20)), (20, (.ireturn, 21))]
def zc_Player_isGone : List (Nat × (Instr × Nat)) := [(0, (.iload 1, 1)), (1, (.iload 2, 2)), (2, (.if_icmp .ge 9, 5)), (5, (.iload 0, 6)), (6, (.ifCond .gt 13, 9)), (9, (.iconst 1, 10)), (10, (.goto 14, 13)), (13, (.iconst 0, 14)), (14, (.freturn, 15))]
def zc_Player_raised : List (Nat × (Instr × Nat)) := [(0, (.iconst 2, 1)), (1, (.iload 0, 2)), (2, (.imul, 3)), (3, (.iconst 99, 5)), (5, (.fadd, 8)), (8, (.ireturn, 9))]
def zc_Player_lowered : List (Nat × (Instr × Nat)) := [(0, (.iload 0, 1)), (1, (.iconst 2, 2)), (2, (.idiv, 3)), (3, (.iconst 1, 4)), (4, (.fsub, 7)), (7, (.ireturn, 8))]
def zc_Player_mostOf : List (Nat × (Instr × Nat)) := [(0, (.iload 4, 2)), (2, (.ifCond .le 14, 5)), (5, (.iload 0, 6)), (6, (.iload 2, 7)), (7, (.iload 3, 8)), (8, (.invokestatic 20483, 11)), (11, (.ifCond .eq 16, 14)), (14, (.iconst 0, 15)), (15, (.ireturn, 16)), (16, (.iload 0, 17)), (17, (.iload 1, 18)), (18, (.iload 3, 19)), (19, (.iload 4, 21)), (21, (.invokestatic 24580, 24)), (24, (.istore 5, 26)), (26, (.iload 0, 27)), (27, (.iload 1, 28)), (28, (.iload 2, 29)), (29, (.iload 3, 30)), (30, (.iload 4, 32)), (32, (.invokestatic 25605, 35)), (35, (.istore 6, 37)), (37, (.iconst 0, 38)), (38, (.iload 5, 40)), (40, (.iload 6, 42)), (42, (.fsub, 45)), (45, (.fsub, 48)), (48, (.ireturn, 49))]
def zc_Player_winningFirst : List (Nat × (Instr × Nat)) := [(0, (.iload 1, 1)), (1, (.iload 0, 2)), (2, (.fadd, 5)), (5, (.istore 4, 7)), (7, (.iload 0, 8)), (8, (.iload 4, 10)), (10, (.iadd, 11)), (11, (.iload 1, 12)), (12, (.invokestatic 21505, 15)), (15, (.iconst 0, 16)), (16, (.iload 2, 17)), (17, (.iload 3, 18)), (18, (.iconst 1, 19)), (19, (.isub, 20)), (20, (.invokestatic 23557, 23)), (23, (.iload 4, 25)), (25, (.isub, 26)), (26, (.ireturn, 27))]
def zc_Player_losingFirst : List (Nat × (Instr × Nat)) := [(0, (.iload 1, 1)), (1, (.iload 0, 2)), (2, (.fadd, 5)), (5, (.istore 5, 7)), (7, (.iload 0, 8)), (8, (.iload 5, 10)), (10, (.isub, 11)), (11, (.iload 1, 12)), (12, (.invokestatic 22529, 15)), (15, (.iload 2, 16)), (16, (.iconst 1, 17)), (17, (.iadd, 18)), (18, (.iload 3, 19)), (19, (.iload 4, 21)), (21, (.iconst 1, 22)), (22, (.isub, 23)), (23, (.invokestatic 23557, 26)), (26, (.iload 5, 28)), (28, (.iadd, 29)), (29, (.ireturn, 30))]
def zc_Search_init : List (Nat × (Instr × Nat)) := [(0, (.aload 0, 1)), (1, (.nop, 4)), (4, (.aload 0, 5)), (5, (.iconst 0, 6)), (6, (.putfield 1024, 9)), (9, (.aload 0, 10)), (10, (.iconst 0, 11)), (11, (.putfield 1028, 14)), (14, (.aload 0, 15)), (15, (.iconst 0, 16)), (16, (.putfield 1032, 19)), (19, (.aload 0, 20)), (20, (.sipush 0, 21)), (21, (.putfield 1037, 24)), (24, (.aload 0, 25)), (25, (.iconst 4, 26)), (26, (.newarray .int, 28)), (28, (.putfield 1043, 31)), (31, (.aload 0, 32)), (32, (.iconst 4, 33)), (33, (.newarray .int, 35)), (35, (.putfield 1047, 38)), (38, (.aload 0, 39)), (39, (.new 515, 42)), (42, (.dup, 43)), (43, (.invokespecial 5153, 46)), (46, (.putfield 1051, 49)), (49, (.return_, 50))]
def zc_Search_start : List (Nat × (Instr × Nat)) := [(0, (.aload 0, 1)), (1, (.iload 5, 3)), (3, (.putfield 1024, 6)), (6, (.aload 0, 7)), (7, (.iload 4, 9)), (9, (.putfield 1032, 12)), (12, (.aload 0, 13)), (13, (.sipush (1000000000000000), 16)), (16, (.putfield 1037, 19)), (19, (.aload 0, 20)), (20, (.getfield 1051, 23)), (23, (.iload 5, 25)), (25, (.iconst 0, 26)), (26, (.iconst 1, 27)), (27, (.invokevirtual 6180, 30)), (30, (.aload 0, 31)), (31, (.aload 0, 32)), (32, (.getfield 1051, 35)), (35, (.aload 1, 36)), (36, (.getfield 1819, 39)), (39, (.iload 3, 40)), (40, (.aaload, 41)), (41, (.getfield 0, 44)), (44, (.invokevirtual 12322, 47)), (47, (.putfield 1028, 50)), (50, (.aload 2, 51)), (51, (.aload 1, 52)), (52, (.iload 3, 53)), (53, (.iconst (-1), 54)), (54, (.invokevirtual 35940, 57)), (57, (.aload 0, 58)), (58, (.aload 1, 59)), (59, (.aload 2, 60)), (60, (.iconst 0, 61)), (61, (.aload 1, 62)), (62, (.aload 1, 63)), (63, (.getfield 1800, 66)), (66, (.invokevirtual 46194, 69)), (69, (.invokestatic 28677, 72)), (72, (.return_, 73))]
def zc_Search_seek : List (Nat × (Instr × Nat)) := [(0, (.iload 3, 1)), (1, (.aload 0, 2)), (2, (.getfield 1032, 5)), (5, (.if_icmp .lt 9, 8)), (8, (.return_, 9)), (9, (.iconst 0, 10)), (10, (.istore 5, 12)), (12, (.iload 5, 14)), (14, (.aload 1, 15)), (15, (.getfield 1792, 18)), (18, (.if_icmp .ge 111, 21)), (21, (.aload 0, 22)), (22, (.getfield 1037, 25)), (25, (.sipush 0, 26)), (26, (.lcmp, 27)), (27, (.ifCond .le 111, 30)), (30, (.iload 5, 32)), (32, (.iconst 1, 33)), (33, (.iadd, 34)), (34, (.istore 6, 36)), (36, (.iload 6, 38)), (38, (.aload 1, 39)), (39, (.getfield 1792, 42)), (42, (.if_icmp .ge 105, 45)), (45, (.aload 0, 46)), (46, (.getfield 1037, 49)), (49, (.sipush 0, 50)), (50, (.lcmp, 51)), (51, (.ifCond .le 105, 54)), (54, (.aload 0, 55)), (55, (.getfield 1043, 58)), (58, (.iload 3, 59)), (59, (.iconst 10, 61)), (61, (.iload 5, 63)), (63, (.imul, 64)), (64, (.iload 6, 66)), (66, (.iadd, 67)), (67, (.iastore, 68)), (68, (.aload 0, 69)), (69, (.getfield 1051, 72)), (72, (.aload 0, 73)), (73, (.getfield 1024, 76)), (76, (.iload 5, 78)), (78, (.iload 6, 80)), (80, (.invokevirtual 6180, 83)), (83, (.aload 0, 84)), (84, (.aload 1, 85)), (85, (.aload 2, 86)), (86, (.iload 3, 87)), (87, (.aload 0, 88)), (88, (.getfield 1051, 91)), (91, (.iload 4, 93)), (93, (.invokevirtual 11298, 96)), (96, (.invokestatic 29701, 99)), (99, (.iinc 6 1, 102)), (102, (.goto 36, 105)), (105, (.iinc 5 1, 108)), (108, (.goto 12, 111)), (111, (.return_, 112))]
def zc_Search_choose : List (Nat × (Instr × Nat)) := [(0, (.aload 1, 1)), (1, (.getfield 1800, 4)), (4, (.iload 3, 5)), (5, (.iadd, 6)), (6, (.istore 5, 8)), (8, (.iload 3, 9)), (9, (.iconst 1, 10)), (10, (.iadd, 11)), (11, (.aload 0, 12)), (12, (.getfield 1032, 15)), (15, (.if_icmp .ge 48, 18)), (18, (.aload 2, 19)), (19, (.iload 5, 21)), (21, (.aload 0, 22)), (22, (.getfield 1051, 25)), (25, (.aload 0, 26)), (26, (.getfield 1028, 29)), (29, (.aload 1, 30)), (30, (.getfield 1792, 33)), (33, (.invokevirtual 36965, 36)), (36, (.aload 0, 37)), (37, (.aload 1, 38)), (38, (.aload 2, 39)), (39, (.iload 3, 40)), (40, (.iconst 1, 41)), (41, (.iadd, 42)), (42, (.iload 4, 44)), (44, (.invokestatic 28677, 47)), (47, (.return_, 48)), (48, (.iload 4, 50)), (50, (.ifCond .ge 57, 53)), (53, (.sipush 0, 54)), (54, (.goto 77, 57)), (57, (.aload 2, 58)), (58, (.iload 5, 60)), (60, (.aload 0, 61)), (61, (.getfield 1051, 64)), (64, (.aload 0, 65)), (65, (.getfield 1028, 68)), (68, (.aload 1, 69)), (69, (.getfield 1792, 72)), (72, (.iload 4, 74)), (74, (.invokevirtual 37990, 77)), (77, (.lstore 6, 79)), (79, (.lload 6, 81)), (81, (.aload 0, 82)), (82, (.getfield 1037, 85)), (85, (.lcmp, 86)), (86, (.ifCond .ge 112, 89)), (89, (.aload 0, 90)), (90, (.lload 6, 92)), (92, (.putfield 1037, 95)), (95, (.aload 0, 96)), (96, (.getfield 1043, 99)), (99, (.iconst 0, 100)), (100, (.aload 0, 101)), (101, (.getfield 1047, 104)), (104, (.iconst 0, 105)), (105, (.aload 0, 106)), (106, (.getfield 1032, 109)), (109, (.swap, 112)), (112, (.return_, 113))]
def zc_Sheet_init : List (Nat × (Instr × Nat)) := [(0, (.aload 0, 1)), (1, (.nop, 4)), (4, (.aload 0, 5)), (5, (.iconst 0, 6)), (6, (.putfield 1280, 9)), (9, (.aload 0, 10)), (10, (.iconst 0, 11)), (11, (.putfield 1284, 14)), (14, (.aload 0, 15)), (15, (.iconst 40, 17)), (17, (.newarray .int, 19)), (19, (.putfield 1291, 22)), (22, (.return_, 23))]
def zc_Sheet_lay : List (Nat × (Instr × Nat)) := [(0, (.aload 0, 1)), (1, (.iload 1, 2)), (2, (.putfield 1280, 5)), (5, (.aload 0, 6)), (6, (.iload 2, 7)), (7, (.putfield 1284, 10)), (10, (.iconst 0, 11)), (11, (.istore 3, 12)), (12, (.iload 3, 13)), (13, (.iconst 40, 15)), (15, (.if_icmp .ge 31, 18)), (18, (.aload 0, 19)), (19, (.getfield 1291, 22)), (22, (.iload 3, 23)), (23, (.iconst 0, 24)), (24, (.iastore, 25)), (25, (.iinc 3 1, 28)), (28, (.goto 12, 31)), (31, (.return_, 32))]
def zc_Sheet_put : List (Nat × (Instr × Nat)) := [(0, (.aload 0, 1)), (1, (.getfield 1291, 4)), (4, (.iload 1, 5)), (5, (.aload 0, 6)), (6, (.getfield 1280, 9)), (9, (.iconst 8, 11)), (11, (.if_icmp .ne 19, 14)), (14, (.iload 2, 15)), (15, (.i2b, 16)), (16, (.goto 34, 19)), (19, (.aload 0, 20)), (20, (.getfield 1280, 23)), (23, (.iconst 16, 25)), (25, (.if_icmp .ne 33, 28)), (28, (.iload 2, 29)), (29, (.i2s, 30)), (30, (.goto 34, 33)), (33, (.iload 2, 34)), (34, (.iastore, 35)), (35, (.return_, 36))]
def zc_Sheet_has : List (Nat × (Instr × Nat)) := [(0, (.iload 1, 1)), (1, (.ifCond .lt 30, 4)), (4, (.iload 2, 5)), (5, (.ifCond .lt 30, 8)), (8, (.iload 2, 9)), (9, (.aload 0, 10)), (10, (.getfield 1284, 13)), (13, (.if_icmp .gt 30, 16)), (16, (.iload 1, 17)), (17, (.aload 0, 18)), (18, (.getfield 1284, 21)), (21, (.iload 2, 22)), (22, (.isub, 23)), (23, (.if_icmp .gt 30, 26)), (26, (.iconst 1, 27)), (27, (.goto 31, 30)), (30, (.iconst 0, 31)), (31, (.freturn, 32))]
def zc_Sight_init : List (Nat × (Instr × Nat)) := [(0, (.aload 0, 1)), (1, (.nop, 4)), (4, (.aload 0, 5)), (5, (.iconst 15, 7)), (7, (.iconst 6, 9)), (9, (.multianewarray 0 2, 13)), (13, (.putfield 1539, 16)), (16, (.return_, 17))]
def zc_Sight_follow : List (Nat × (Instr × Nat)) := [(0, (.aload 1, 1)), (1, (.getfield 1819, 4)), (4, (.iload 2, 5)), (5, (.aaload, 6)), (6, (.astore 4, 8)), (8, (.iconst 0, 9)), (9, (.istore 5, 11)), (11, (.iload 5, 13)), (13, (.iconst 6, 15)), (15, (.if_icmp .ge 48, 18)), (18, (.aload 0, 19)), (19, (.getfield 1539, 22)), (22, (.iconst 0, 23)), (23, (.aaload, 24)), (24, (.iload 5, 26)), (26, (.iload 5, 28)), (28, (.aload 4, 30)), (30, (.getfield 4, 33)), (33, (.if_icmp .ne 40, 36)), (36, (.sipush 1, 37)), (37, (.goto 41, 40)), (40, (.sipush 0, 41)), (41, (.lastore, 42)), (42, (.iinc 5 1, 45)), (45, (.goto 11, 48)), (48, (.iconst 0, 49)), (49, (.istore 5, 51)), (51, (.iload 5, 53)), (53, (.aload 1, 54)), (54, (.getfield 1800, 57)), (57, (.if_icmp .ge 107, 60)), (60, (.aload 1, 61)), (61, (.getfield 1815, 64)), (64, (.iload 5, 66)), (66, (.aaload, 67)), (67, (.astore 6, 69)), (69, (.aload 0, 70)), (70, (.iload 5, 72)), (72, (.aload 6, 74)), (74, (.iload 5, 76)), (76, (.iload 3, 77)), (77, (.if_icmp .ne 84, 80)), (80, (.iconst 0, 81)), (81, (.goto 94, 84)), (84, (.aload 6, 86)), (86, (.aload 4, 88)), (88, (.getfield 0, 91)), (91, (.invokevirtual 12322, 94)), (94, (.aload 1, 95)), (95, (.getfield 1792, 98)), (98, (.invokevirtual 36965, 101)), (101, (.iinc 5 1, 104)), (104, (.goto 51, 107)), (107, (.return_, 108))]
def zc_Sight_see : List (Nat × (Instr × Nat)) := [(0, (.iconst 0, 1)), (1, (.istore 5, 3)), (3, (.iload 5, 5)), (5, (.iload 4, 7)), (7, (.if_icmp .ge 38, 10)), (10, (.aload 0, 11)), (11, (.getfield 1539, 14)), (14, (.iload 1, 15)), (15, (.iconst 1, 16)), (16, (.iadd, 17)), (17, (.aaload, 18)), (18, (.iload 5, 20)), (20, (.aload 0, 21)), (21, (.iload 1, 22)), (22, (.aload 2, 23)), (23, (.iload 3, 24)), (24, (.iload 4, 26)), (26, (.iload 5, 28)), (28, (.invokevirtual 37990, 31)), (31, (.lastore, 32)), (32, (.iinc 5 1, 35)), (35, (.goto 3, 38)), (38, (.iload 4, 40)), (40, (.istore 5, 42)), (42, (.iload 5, 44)), (44, (.iconst 6, 46)), (46, (.if_icmp .ge 67, 49)), (49, (.aload 0, 50)), (50, (.getfield 1539, 53)), (53, (.iload 1, 54)), (54, (.iconst 1, 55)), (55, (.iadd, 56)), (56, (.aaload, 57)), (57, (.iload 5, 59)), (59, (.sipush 0, 60)), (60, (.lastore, 61)), (61, (.iinc 5 1, 64)), (64, (.goto 42, 67)), (67, (.return_, 68))]
def zc_Sight_seenAt : List (Nat × (Instr × Nat)) := [(0, (.aload 2, 1)), (1, (.getfield 516, 4)), (4, (.istore 6, 6)), (6, (.aload 2, 7)), (7, (.invokevirtual 8225, 10)), (10, (.istore 7, 12)), (12, (.iload 7, 14)), (14, (.iload 4, 16)), (16, (.invokestatic 141314, 19)), (19, (.istore 8, 21)), (21, (.iload 8, 23)), (23, (.iload 6, 25)), (25, (.if_icmp .ne 37, 28)), (28, (.iload 8, 30)), (30, (.iload 4, 32)), (32, (.invokestatic 141314, 35)), (35, (.istore 8, 37)), (37, (.aload 0, 38)), (38, (.getfield 1539, 41)), (41, (.iload 1, 42)), (42, (.aaload, 43)), (43, (.iload 6, 45)), (45, (.iload 7, 47)), (47, (.iload 5, 49)), (49, (.invokestatic 140291, 52)), (52, (.laload, 53)), (53, (.lstore 9, 55)), (55, (.aload 0, 56)), (56, (.getfield 1539, 59)), (59, (.iload 1, 60)), (60, (.aaload, 61)), (61, (.iload 6, 63)), (63, (.iload 8, 65)), (65, (.iload 5, 67)), (67, (.invokestatic 140291, 70)), (70, (.laload, 71)), (71, (.lstore 11, 73)), (73, (.iconst 10, 75)), (75, (.iload 3, 76)), (76, (.isub, 77)), (77, (.i2l, 78)), (78, (.lload 9, 80)), (80, (.lmul, 81)), (81, (.iload 3, 82)), (82, (.i2l, 83)), (83, (.lload 11, 85)), (85, (.lmul, 86)), (86, (.ladd, 87)), (87, (.lreturn, 88))]
def zc_Sight_at : List (Nat × (Instr × Nat)) := [(0, (.iload 2, 1)), (1, (.ifCond .ge 8, 4)), (4, (.sipush 0, 5)), (5, (.goto 16, 8)), (8, (.aload 0, 9)), (9, (.getfield 1539, 12)), (12, (.iload 1, 13)), (13, (.aaload, 14)), (14, (.iload 2, 15)), (15, (.laload, 16)), (16, (.lreturn, 17))]
def zc_Sight_likeliest : List (Nat × (Instr × Nat)) := [(0, (.iconst 0, 1)), (1, (.istore 2, 2)), (2, (.iconst 1, 3)), (3, (.istore 3, 4)), (4, (.iload 3, 5)), (5, (.iconst 6, 7)), (7, (.if_icmp .ge 38, 10)), (10, (.aload 0, 11)), (11, (.getfield 1539, 14)), (14, (.iload 1, 15)), (15, (.aaload, 16)), (16, (.iload 3, 17)), (17, (.laload, 18)), (18, (.aload 0, 19)), (19, (.getfield 1539, 22)), (22, (.iload 1, 23)), (23, (.aaload, 24)), (24, (.iload 2, 25)), (25, (.laload, 26)), (26, (.lcmp, 27)), (27, (.ifCond .le 32, 30)), (30, (.iload 3, 31)), (31, (.istore 2, 32)), (32, (.iinc 3 1, 35)), (35, (.goto 4, 38)), (38, (.iload 2, 39)), (39, (.ireturn, 40))]
def zc_Sight_likeliestWith : List (Nat × (Instr × Nat)) := [(0, (.iconst (-1), 1)), (1, (.istore 3, 2)), (2, (.sipush 0, 3)), (3, (.lstore 4, 5)), (5, (.iconst 0, 6)), (6, (.istore 6, 8)), (8, (.iload 6, 10)), (10, (.iconst 6, 12)), (12, (.if_icmp .ge 57, 15)), (15, (.aload 0, 16)), (16, (.getfield 1539, 19)), (19, (.iload 2, 20)), (20, (.aaload, 21)), (21, (.iload 6, 23)), (23, (.laload, 24)), (24, (.aload 1, 25)), (25, (.getfield 1539, 28)), (28, (.iload 2, 29)), (29, (.aaload, 30)), (30, (.iload 6, 32)), (32, (.laload, 33)), (33, (.lmul, 34)), (34, (.lstore 7, 36)), (36, (.lload 7, 38)), (38, (.lload 4, 40)), (40, (.lcmp, 41)), (41, (.ifCond .le 51, 44)), (44, (.lload 7, 46)), (46, (.lstore 4, 48)), (48, (.iload 6, 50)), (50, (.istore 3, 51)), (51, (.iinc 6 1, 54)), (54, (.goto 8, 57)), (57, (.iload 3, 58)), (58, (.ireturn, 59))]
def zc_Table_init : List (Nat × (Instr × Nat)) := [(0, (.aload 0, 1)), (1, (.nop, 4)), (4, (.aload 0, 5)), (5, (.iconst 3, 6)), (6, (.putfield 1792, 9)), (9, (.aload 0, 10)), (10, (.iconst 0, 11)), (11, (.putfield 1796, 14)), (14, (.aload 0, 15)), (15, (.iconst 0, 16)), (16, (.putfield 1800, 19)), (19, (.aload 0, 20)), (20, (.iconst 0, 21)), (21, (.putfield 1804, 24)), (24, (.aload 0, 25)), (25, (.iconst 1, 26)), (26, (.putfield 1808, 29)), (29, (.aload 0, 30)), (30, (.iconst 14, 32)), (32, (.anewarray 2, 35)), (35, (.putfield 1815, 38)), (38, (.aload 0, 39)), (39, (.iconst 4, 40)), (40, (.anewarray 0, 43)), (43, (.putfield 1819, 46)), (46, (.aload 0, 47)), (47, (.iconst 4, 48)), (48, (.anewarray 3, 51)), (51, (.putfield 1823, 54)), (54, (.aload 0, 55)), (55, (.iconst 10, 57)), (57, (.newarray .int, 59)), (59, (.putfield 1827, 62)), (62, (.iconst 0, 63)), (63, (.istore 1, 64)), (64, (.iload 1, 65)), (65, (.iconst 14, 67)), (67, (.if_icmp .ge 89, 70)), (70, (.aload 0, 71)), (71, (.getfield 1815, 74)), (74, (.iload 1, 75)), (75, (.new 515, 78)), (78, (.dup, 79)), (79, (.invokespecial 5153, 82)), (82, (.aastore, 83)), (83, (.iinc 1 1, 86)), (86, (.goto 64, 89)), (89, (.iconst 0, 90)), (90, (.istore 1, 91)), (91, (.iload 1, 92)), (92, (.iconst 4, 93)), (93, (.if_icmp .ge 115, 96)), (96, (.aload 0, 97)), (97, (.getfield 1819, 100)), (100, (.iload 1, 101)), (101, (.new 2, 104)), (104, (.dup, 105)), (105, (.invokespecial 1, 108)), (108, (.aastore, 109)), (109, (.iinc 1 1, 112)), (112, (.goto 91, 115)), (115, (.iconst 0, 116)), (116, (.istore 1, 117)), (117, (.iload 1, 118)), (118, (.iconst 4, 119)), (119, (.if_icmp .ge 141, 122)), (122, (.aload 0, 123)), (123, (.getfield 1823, 126)), (126, (.iload 1, 127)), (127, (.new 772, 130)), (130, (.dup, 131)), (131, (.invokespecial 13361, 134)), (134, (.aastore, 135)), (135, (.iinc 1 1, 138)), (138, (.goto 117, 141)), (141, (.iconst 0, 142)), (142, (.istore 1, 143)), (143, (.iload 1, 144)), (144, (.iconst 10, 146)), (146, (.if_icmp .ge 162, 149)), (149, (.aload 0, 150)), (150, (.getfield 1827, 153)), (153, (.iload 1, 154)), (154, (.iconst (-1), 155)), (155, (.iastore, 156)), (156, (.iinc 1 1, 159)), (159, (.goto 143, 162)), (162, (.return_, 163))]
def zc_Table_become : List (Nat × (Instr × Nat)) := [(0, (.aload 0, 1)), (1, (.aload 1, 2)), (2, (.getfield 1792, 5)), (5, (.putfield 1792, 8)), (8, (.aload 0, 9)), (9, (.aload 1, 10)), (10, (.getfield 1796, 13)), (13, (.putfield 1796, 16)), (16, (.aload 0, 17)), (17, (.aload 1, 18)), (18, (.getfield 1800, 21)), (21, (.putfield 1800, 24)), (24, (.aload 0, 25)), (25, (.aload 1, 26)), (26, (.getfield 1804, 29)), (29, (.putfield 1804, 32)), (32, (.aload 0, 33)), (33, (.aload 1, 34)), (34, (.getfield 1808, 37)), (37, (.putfield 1808, 40)), (40, (.iconst 0, 41)), (41, (.istore 2, 42)), (42, (.iload 2, 43)), (43, (.aload 1, 44)), (44, (.getfield 1800, 47)), (47, (.if_icmp .ge 84, 50)), (50, (.aload 1, 51)), (51, (.getfield 1815, 54)), (54, (.iload 2, 55)), (55, (.aaload, 56)), (56, (.astore 3, 57)), (57, (.aload 0, 58)), (58, (.getfield 1815, 61)), (61, (.iload 2, 62)), (62, (.aaload, 63)), (63, (.aload 3, 64)), (64, (.getfield 512, 67)), (67, (.aload 3, 68)), (68, (.getfield 516, 71)), (71, (.aload 3, 72)), (72, (.getfield 520, 75)), (75, (.invokevirtual 6180, 78)), (78, (.iinc 2 1, 81)), (81, (.goto 42, 84)), (84, (.iconst 0, 85)), (85, (.istore 2, 86)), (86, (.iload 2, 87)), (87, (.iconst 4, 88)), (88, (.if_icmp .ge 133, 91)), (91, (.aload 0, 92)), (92, (.getfield 1819, 95)), (95, (.iload 2, 96)), (96, (.aaload, 97)), (97, (.aload 1, 98)), (98, (.getfield 1819, 101)), (101, (.iload 2, 102)), (102, (.aaload, 103)), (103, (.getfield 0, 106)), (106, (.putfield 0, 109)), (109, (.aload 0, 110)), (110, (.getfield 1819, 113)), (113, (.iload 2, 114)), (114, (.aaload, 115)), (115, (.aload 1, 116)), (116, (.getfield 1819, 119)), (119, (.iload 2, 120)), (120, (.aaload, 121)), (121, (.getfield 4, 124)), (124, (.putfield 4, 127)), (127, (.iinc 2 1, 130)), (130, (.goto 86, 133)), (133, (.iconst 0, 134)), (134, (.istore 2, 135)), (135, (.iload 2, 136)), (136, (.iconst 4, 137)), (137, (.if_icmp .ge 161, 140)), (140, (.aload 0, 141)), (141, (.getfield 1823, 144)), (144, (.iload 2, 145)), (145, (.aaload, 146)), (146, (.aload 1, 147)), (147, (.getfield 1823, 150)), (150, (.iload 2, 151)), (151, (.aaload, 152)), (152, (.invokevirtual 16434, 155)), (155, (.iinc 2 1, 158)), (158, (.goto 135, 161)), (161, (.aload 1, 162)), (162, (.getfield 1827, 165)), (165, (.iconst 0, 166)), (166, (.aload 0, 167)), (167, (.getfield 1827, 170)), (170, (.iconst 0, 171)), (171, (.iconst 10, 173)), (173, (.swap, 176)), (176, (.return_, 177))]
def zc_Table_setCups : List (Nat × (Instr × Nat)) := [(0, (.aload 0, 1)), (1, (.iload 1, 2)), (2, (.putfield 1792, 5)), (5, (.aload 0, 6)), (6, (.getfield 1796, 9)), (9, (.iload 1, 10)), (10, (.if_icmp .lt 18, 13)), (13, (.aload 0, 14)), (14, (.iconst 0, 15)), (15, (.putfield 1796, 18)), (18, (.iconst 0, 19)), (19, (.istore 2, 20)), (20, (.iload 2, 21)), (21, (.iconst 4, 22)), (22, (.if_icmp .ge 54, 25)), (25, (.aload 0, 26)), (26, (.getfield 1819, 29)), (29, (.iload 2, 30)), (30, (.aaload, 31)), (31, (.getfield 4, 34)), (34, (.iload 1, 35)), (35, (.if_icmp .lt 48, 38)), (38, (.aload 0, 39)), (39, (.getfield 1819, 42)), (42, (.iload 2, 43)), (43, (.aaload, 44)), (44, (.iconst 0, 45)), (45, (.putfield 4, 48)), (48, (.iinc 2 1, 51)), (51, (.goto 20, 54)), (54, (.return_, 55))]
def zc_Table_add : List (Nat × (Instr × Nat)) := [(0, (.aload 0, 1)), (1, (.getfield 1800, 4)), (4, (.iconst 14, 6)), (6, (.if_icmp .ge 34, 9)), (9, (.aload 0, 10)), (10, (.getfield 1815, 13)), (13, (.aload 0, 14)), (14, (.getfield 1800, 17)), (17, (.aaload, 18)), (18, (.iload 1, 19)), (19, (.iload 2, 20)), (20, (.iload 3, 21)), (21, (.invokevirtual 6180, 24)), (24, (.aload 0, 25)), (25, (.dup, 26)), (26, (.getfield 1800, 29)), (29, (.iconst 1, 30)), (30, (.iadd, 31)), (31, (.putfield 1800, 34)), (34, (.return_, 35))]
def zc_Table_peaBehind : List (Nat × (Instr × Nat)) := [(0, (.aload 0, 1)), (1, (.getfield 1796, 4)), (4, (.istore 2, 5)), (5, (.iconst 0, 6)), (6, (.istore 3, 7)), (7, (.iload 3, 8)), (8, (.iload 1, 9)), (9, (.if_icmp .ge 29, 12)), (12, (.aload 0, 13)), (13, (.getfield 1815, 16)), (16, (.iload 3, 17)), (17, (.aaload, 18)), (18, (.iload 2, 19)), (19, (.invokevirtual 11298, 22)), (22, (.istore 2, 23)), (23, (.iinc 3 1, 26)), (26, (.goto 7, 29)), (29, (.iload 2, 30)), (30, (.ireturn, 31))]
def zc_Table_feintSets : List (Nat × (Instr × Nat)) := [(0, (.iconst 1, 1)), (1, (.aload 0, 2)), (2, (.getfield 1800, 5)), (5, (.iconst 10, 7)), (7, (.fadd, 10)), (10, (.ishl, 11)), (11, (.ireturn, 12))]
def zc_Table_peaWithFeints : List (Nat × (Instr × Nat)) := [(0, (.aload 0, 1)), (1, (.getfield 1796, 4)), (4, (.istore 2, 5)), (5, (.iconst 0, 6)), (6, (.istore 3, 7)), (7, (.iload 3, 8)), (8, (.aload 0, 9)), (9, (.getfield 1800, 12)), (12, (.if_icmp .ge 40, 15)), (15, (.iload 1, 16)), (16, (.iconst 1, 17)), (17, (.iload 3, 18)), (18, (.ishl, 19)), (19, (.iand, 20)), (20, (.ifCond .ne 34, 23)), (23, (.aload 0, 24)), (24, (.getfield 1815, 27)), (27, (.iload 3, 28)), (28, (.aaload, 29)), (29, (.iload 2, 30)), (30, (.invokevirtual 11298, 33)), (33, (.istore 2, 34)), (34, (.iinc 3 1, 37)), (37, (.goto 7, 40)), (40, (.iload 2, 41)), (41, (.ireturn, 42))]
def zc_Table_playRound : List (Nat × (Instr × Nat)) := [(0, (.aload 0, 1)), (1, (.getfield 1823, 4)), (4, (.iload 1, 5)), (5, (.aaload, 6)), (6, (.iload 2, 7)), (7, (.invokevirtual 18482, 10)), (10, (.istore 3, 11)), (11, (.aload 0, 12)), (12, (.iload 2, 13)), (13, (.ifCond .eq 25, 16)), (16, (.aload 0, 17)), (17, (.getfield 1804, 20)), (20, (.iload 3, 21)), (21, (.isub, 22)), (22, (.goto 31, 25)), (25, (.aload 0, 26)), (26, (.getfield 1804, 29)), (29, (.iload 3, 30)), (30, (.iadd, 31)), (31, (.putfield 1804, 34)), (34, (.iload 3, 35)), (35, (.ireturn, 36))]
def zc_Table_whoLeft : List (Nat × (Instr × Nat)) := [(0, (.iconst 0, 1)), (1, (.istore 1, 2)), (2, (.iconst 0, 3)), (3, (.istore 2, 4)), (4, (.iload 2, 5)), (5, (.iconst 4, 6)), (6, (.if_icmp .ge 33, 9)), (9, (.aload 0, 10)), (10, (.getfield 1823, 13)), (13, (.iload 2, 14)), (14, (.aaload, 15)), (15, (.invokevirtual 17457, 18)), (18, (.ifCond .eq 27, 21)), (21, (.iload 1, 22)), (22, (.iconst 1, 23)), (23, (.iload 2, 24)), (24, (.ishl, 25)), (25, (.ior, 26)), (26, (.istore 1, 27)), (27, (.iinc 2 1, 30)), (30, (.goto 4, 33)), (33, (.iload 1, 34)), (34, (.ireturn, 35))]
def zc_Table_draw : List (Nat × (Instr × Nat)) := [(0, (.aload 0, 1)), (1, (.aload 0, 2)), (2, (.getfield 1808, 5)), (5, (.iconst (1103515245), 7)), (7, (.imul, 8)), (8, (.iconst 12345, 11)), (11, (.iadd, 12)), (12, (.putfield 1808, 15)), (15, (.iload 1, 16)), (16, (.ifCond .le 31, 19)), (19, (.aload 0, 20)), (20, (.getfield 1808, 23)), (23, (.iconst 8, 25)), (25, (.iushr, 26)), (26, (.iload 1, 27)), (27, (.irem, 28)), (28, (.goto 32, 31)), (31, (.iconst 0, 32)), (32, (.ireturn, 33))]
def zc_Table_sumOfPlayers : List (Nat × (Instr × Nat)) := [(0, (.iconst 0, 1)), (1, (.istore 2, 2)), (2, (.iconst 0, 3)), (3, (.istore 3, 4)), (4, (.iload 3, 5)), (5, (.iconst 4, 6)), (6, (.if_icmp .ge 28, 9)), (9, (.iload 2, 10)), (10, (.aload 0, 11)), (11, (.getfield 1823, 14)), (14, (.iload 3, 15)), (15, (.aaload, 16)), (16, (.iload 1, 17)), (17, (.invokevirtual 14386, 20)), (20, (.iadd, 21)), (21, (.istore 2, 22)), (22, (.iinc 3 1, 25)), (25, (.goto 4, 28)), (28, (.iload 2, 29)), (29, (.ireturn, 30))]
def zc_Table_sumOfSlips : List (Nat × (Instr × Nat)) := [(0, (.iconst 0, 1)), (1, (.istore 1, 2)), (2, (.iconst 0, 3)), (3, (.istore 2, 4)), (4, (.iload 2, 5)), (5, (.iconst 4, 6)), (6, (.if_icmp .ge 27, 9)), (9, (.iload 1, 10)), (10, (.aload 0, 11)), (11, (.getfield 1819, 14)), (14, (.iload 2, 15)), (15, (.aaload, 16)), (16, (.getfield 0, 19)), (19, (.iadd, 20)), (20, (.istore 1, 21)), (21, (.iinc 2 1, 24)), (24, (.goto 4, 27)), (27, (.iload 1, 28)), (28, (.ireturn, 29))]
def zc_Table_fullSpots : List (Nat × (Instr × Nat)) := [(0, (.iconst 0, 1)), (1, (.istore 1, 2)), (2, (.iconst 0, 3)), (3, (.istore 2, 4)), (4, (.iload 2, 5)), (5, (.iconst 10, 7)), (7, (.if_icmp .ge 29, 10)), (10, (.aload 0, 11)), (11, (.getfield 1827, 14)), (14, (.iload 2, 15)), (15, (.iaload, 16)), (16, (.iconst (-1), 17)), (17, (.if_icmp .eq 23, 20)), (20, (.iinc 1 1, 23)), (23, (.iinc 2 1, 26)), (26, (.goto 4, 29)), (29, (.iload 1, 30)), (30, (.ireturn, 31))]
def zc_Tape_init : List (Nat × (Instr × Nat)) := [(0, (.aload 0, 1)), (1, (.nop, 4)), (4, (.aload 0, 5)), (5, (.iconst 120, 7)), (7, (.newarray .byte, 9)), (9, (.putfield 2051, 12)), (12, (.aload 0, 13)), (13, (.iconst 0, 14)), (14, (.putfield 2052, 17)), (17, (.aload 0, 18)), (18, (.iconst 0, 19)), (19, (.putfield 2056, 22)), (22, (.aload 0, 23)), (23, (.iconst 0, 24)), (24, (.putfield 2060, 27)), (27, (.aload 0, 28)), (28, (.iconst 0, 29)), (29, (.putfield 2064, 32)), (32, (.aload 0, 33)), (33, (.iconst 0, 34)), (34, (.putfield 2068, 37)), (37, (.return_, 38))]
def zc_Tape_put : List (Nat × (Instr × Nat)) := [(0, (.aload 0, 1)), (1, (.getfield 2052, 4)), (4, (.iconst 120, 6)), (6, (.if_icmp .ge 30, 9)), (9, (.aload 0, 10)), (10, (.getfield 2051, 13)), (13, (.aload 0, 14)), (14, (.getfield 2052, 17)), (17, (.iload 1, 18)), (18, (.i2b, 19)), (19, (.bastore, 20)), (20, (.aload 0, 21)), (21, (.dup, 22)), (22, (.getfield 2052, 25)), (25, (.iconst 1, 26)), (26, (.iadd, 27)), (27, (.putfield 2052, 30)), (30, (.return_, 31))]
def zc_Tape_readOnto : List (Nat × (Instr × Nat)) := [(0, (.aload 0, 1)), (1, (.iconst 0, 2)), (2, (.putfield 2064, 5)), (5, (.aload 0, 6)), (6, (.invokevirtual 68737, 9)), (9, (.iconst 1, 10)), (10, (.istore 2, 11)), (11, (.iload 2, 12)), (12, (.iconst 120, 14)), (14, (.if_icmp .gt 58, 17)), (17, (.aload 0, 18)), (18, (.aload 1, 19)), (19, (.invokevirtual 58498, 22)), (22, (.ifCond .ne 28, 25)), (25, (.goto 58, 28)), (28, (.aload 0, 29)), (29, (.getfield 2056, 32)), (32, (.ifCond .ne 37, 35)), (35, (.iload 2, 36)), (36, (.ireturn, 37)), (37, (.aload 0, 38)), (38, (.getfield 2056, 41)), (41, (.iconst 3, 42)), (42, (.if_icmp .eq 48, 45)), (45, (.goto 58, 48)), (48, (.aload 0, 49)), (49, (.invokevirtual 68737, 52)), (52, (.iinc 2 1, 55)), (55, (.goto 11, 58)), (58, (.iconst (-1), 59)), (59, (.aload 0, 60)), (60, (.getfield 2060, 63)), (63, (.isub, 64)), (64, (.ireturn, 65))]
def zc_Tape_readItem : List (Nat × (Instr × Nat)) := [(0, (.aload 0, 1)), (1, (.invokevirtual 59521, 4)), (4, (.istore 2, 5)), (5, (.iload 2, 6)), (6, (.ifCond .lt 16, 9)), (9, (.aload 0, 10)), (10, (.aload 1, 11)), (11, (.iload 2, 12)), (12, (.invokevirtual 61571, 15)), (15, (.freturn, 16)), (16, (.aload 0, 17)), (17, (.ldc 11, 19)), (19, (.invokevirtual 67714, 22)), (22, (.ifCond .eq 31, 25)), (25, (.aload 0, 26)), (26, (.aload 1, 27)), (27, (.invokevirtual 62594, 30)), (30, (.freturn, 31)), (31, (.aload 0, 32)), (32, (.ldc 13, 34)), (34, (.invokevirtual 67714, 37)), (37, (.ifCond .eq 46, 40)), (40, (.aload 0, 41)), (41, (.aload 1, 42)), (42, (.invokevirtual 63618, 45)), (45, (.freturn, 46)), (46, (.aload 0, 47)), (47, (.ldc 15, 49)), (49, (.invokevirtual 67714, 52)), (52, (.ifCond .eq 67, 55)), (55, (.aload 0, 56)), (56, (.aload 1, 57)), (57, (.invokevirtual 64642, 60)), (60, (.ifCond .eq 67, 63)), (63, (.iconst 1, 64)), (64, (.goto 68, 67)), (67, (.iconst 0, 68)), (68, (.freturn, 69))]
def zc_Tape_kindNamed : List (Nat × (Instr × Nat)) := [(0, (.iconst 0, 1)), (1, (.istore 1, 2)), (2, (.iload 1, 3)), (3, (.iconst 7, 5)), (5, (.if_icmp .ge 27, 8)), (8, (.aload 0, 9)), (9, (.iload 1, 10)), (10, (.invokestatic 60417, 13)), (13, (.invokevirtual 67714, 16)), (16, (.ifCond .eq 21, 19)), (19, (.iload 1, 20)), (20, (.ireturn, 21)), (21, (.iinc 1 1, 24)), (24, (.goto 2, 27)), (27, (.iconst (-1), 28)), (28, (.ireturn, 29))]
def zc_Tape_nameOfKind : List (Nat × (Instr × Nat)) := [(0, (.iload 0, 1)), (1, (.tableswitch 58 (0) (5) #[40, 43, 46, 49, 52, 55], 40)), (40, (.ldc 4, 42)), (42, (.areturn, 43)), (43, (.ldc 5, 45)), (45, (.areturn, 46)), (46, (.ldc 6, 48)), (48, (.areturn, 49)), (49, (.ldc 7, 51)), (51, (.areturn, 52)), (52, (.ldc 8, 54)), (54, (.areturn, 55)), (55, (.ldc 9, 57)), (57, (.areturn, 58)), (58, (.ldc 10, 60)), (60, (.areturn, 61))]
def zc_Tape_readPass : List (Nat × (Instr × Nat)) := [(0, (.aload 1, 1)), (1, (.getfield 1800, 4)), (4, (.iconst 14, 6)), (6, (.if_icmp .lt 11, 9)), (9, (.iconst 0, 10)), (10, (.freturn, 11)), (11, (.aload 0, 12)), (12, (.invokevirtual 68737, 15)), (15, (.aload 0, 16)), (16, (.iconst 0, 17)), (17, (.aload 1, 18)), (18, (.getfield 1792, 21)), (21, (.iconst 1, 22)), (22, (.isub, 23)), (23, (.invokevirtual 66691, 26)), (26, (.istore 3, 27)), (27, (.iload 3, 28)), (28, (.ifCond .lt 47, 31)), (31, (.aload 0, 32)), (32, (.getfield 2056, 35)), (35, (.iconst 2, 36)), (36, (.if_icmp .ne 49, 39)), (39, (.aload 0, 40)), (40, (.getfield 2068, 43)), (43, (.iload 3, 44)), (44, (.if_icmp .ne 49, 47)), (47, (.iconst 0, 48)), (48, (.freturn, 49)), (49, (.aload 0, 50)), (50, (.iconst 0, 51)), (51, (.aload 1, 52)), (52, (.getfield 1792, 55)), (55, (.iconst 1, 56)), (56, (.isub, 57)), (57, (.invokevirtual 66691, 60)), (60, (.istore 4, 62)), (62, (.iload 4, 64)), (64, (.ifCond .ge 69, 67)), (67, (.iconst 0, 68)), (68, (.freturn, 69)), (69, (.aload 1, 70)), (70, (.iload 2, 71)), (71, (.iload 3, 72)), (72, (.iload 4, 74)), (74, (.invokevirtual 45172, 77)), (77, (.iconst 1, 78)), (78, (.freturn, 79))]
def zc_Tape_readPea : List (Nat × (Instr × Nat)) := [(0, (.aload 0, 1)), (1, (.invokevirtual 68737, 4)), (4, (.aload 0, 5)), (5, (.ldc 12, 7)), (7, (.invokevirtual 67714, 10)), (10, (.ifCond .eq 24, 13)), (13, (.aload 0, 14)), (14, (.invokevirtual 68737, 17)), (17, (.aload 1, 18)), (18, (.iconst (-1), 19)), (19, (.putfield 1796, 22)), (22, (.iconst 1, 23)), (23, (.freturn, 24)), (24, (.aload 0, 25)), (25, (.iconst 0, 26)), (26, (.aload 1, 27)), (27, (.getfield 1792, 30)), (30, (.iconst 1, 31)), (31, (.isub, 32)), (32, (.invokevirtual 66691, 35)), (35, (.istore 2, 36)), (36, (.iload 2, 37)), (37, (.ifCond .ge 42, 40)), (40, (.iconst 0, 41)), (41, (.freturn, 42)), (42, (.aload 1, 43)), (43, (.iload 2, 44)), (44, (.putfield 1796, 47)), (47, (.iconst 1, 48)), (48, (.freturn, 49))]
def zc_Tape_readEye : List (Nat × (Instr × Nat)) := [(0, (.aload 0, 1)), (1, (.invokevirtual 68737, 4)), (4, (.aload 0, 5)), (5, (.iconst 0, 6)), (6, (.iconst 3, 7)), (7, (.invokevirtual 66691, 10)), (10, (.istore 2, 11)), (11, (.iload 2, 12)), (12, (.ifCond .lt 24, 15)), (15, (.aload 0, 16)), (16, (.ldc 14, 18)), (18, (.invokevirtual 67714, 21)), (21, (.ifCond .ne 26, 24)), (24, (.iconst 0, 25)), (25, (.freturn, 26)), (26, (.aload 0, 27)), (27, (.invokevirtual 68737, 30)), (30, (.aload 0, 31)), (31, (.iconst 0, 32)), (32, (.iconst 10, 34)), (34, (.invokevirtual 66691, 37)), (37, (.istore 3, 38)), (38, (.iload 3, 39)), (39, (.ifCond .ge 44, 42)), (42, (.iconst 0, 43)), (43, (.freturn, 44)), (44, (.aload 1, 45)), (45, (.getfield 1819, 48)), (48, (.iload 2, 49)), (49, (.aaload, 50)), (50, (.iload 3, 51)), (51, (.putfield 0, 54)), (54, (.iconst 1, 55)), (55, (.freturn, 56))]
def zc_Tape_readPlayer : List (Nat × (Instr × Nat)) := [(0, (.aload 0, 1)), (1, (.invokevirtual 68737, 4)), (4, (.aload 0, 5)), (5, (.iconst 0, 6)), (6, (.iconst 3, 7)), (7, (.invokevirtual 66691, 10)), (10, (.istore 2, 11)), (11, (.iload 2, 12)), (12, (.ifCond .ge 17, 15)), (15, (.iconst 0, 16)), (16, (.freturn, 17)), (17, (.iconst 0, 18)), (18, (.istore 3, 19)), (19, (.iload 3, 20)), (20, (.iconst 2, 21)), (21, (.if_icmp .gt 80, 24)), (24, (.aload 0, 25)), (25, (.iload 3, 26)), (26, (.invokestatic 65537, 29)), (29, (.invokevirtual 67714, 32)), (32, (.ifCond .eq 74, 35)), (35, (.aload 0, 36)), (36, (.invokevirtual 68737, 39)), (39, (.aload 0, 40)), (40, (.getstatic 2, 43)), (43, (.iload 3, 44)), (44, (.iaload, 45)), (45, (.getstatic 3, 48)), (48, (.iload 3, 49)), (49, (.iaload, 50)), (50, (.invokevirtual 66691, 53)), (53, (.istore 4, 55)), (55, (.iload 4, 57)), (57, (.ifCond .ge 62, 60)), (60, (.iconst 0, 61)), (61, (.freturn, 62)), (62, (.aload 1, 63)), (63, (.getfield 1823, 66)), (66, (.iload 2, 67)), (67, (.aaload, 68)), (68, (.iload 3, 69)), (69, (.iload 4, 71)), (71, (.invokevirtual 15411, 74)), (74, (.iinc 3 1, 77)), (77, (.goto 19, 80)), (80, (.iconst 1, 81)), (81, (.freturn, 82))]
def zc_Tape_nameOfOwn : List (Nat × (Instr × Nat)) := [(0, (.iload 0, 1)), (1, (.ifCond .ne 9, 4)), (4, (.ldc 16, 6)), (6, (.goto 21, 9)), (9, (.iload 0, 10)), (10, (.iconst 1, 11)), (11, (.if_icmp .ne 19, 14)), (14, (.ldc 17, 16)), (16, (.goto 21, 19)), (19, (.ldc 18, 21)), (21, (.areturn, 22))]
def zc_Tape_takeNumber : List (Nat × (Instr × Nat)) := [(0, (.aload 0, 1)), (1, (.getfield 2056, 4)), (4, (.iconst 2, 5)), (5, (.if_icmp .ne 20, 8)), (8, (.aload 0, 9)), (9, (.getfield 2068, 12)), (12, (.iload 1, 13)), (13, (.iload 2, 14)), (14, (.invokestatic 137219, 17)), (17, (.ifCond .ne 22, 20)), (20, (.iconst (-1), 21)), (21, (.ireturn, 22)), (22, (.aload 0, 23)), (23, (.getfield 2068, 26)), (26, (.istore 3, 27)), (27, (.aload 0, 28)), (28, (.invokevirtual 68737, 31)), (31, (.iload 3, 32)), (32, (.ireturn, 33))]
def zc_Tape_isWord : List (Nat × (Instr × Nat)) := [(0, (.aload 0, 1)), (1, (.getfield 2056, 4)), (4, (.iconst 1, 5)), (5, (.if_icmp .ne 24, 8)), (8, (.aload 0, 9)), (9, (.getfield 2064, 12)), (12, (.aload 0, 13)), (13, (.getfield 2060, 16)), (16, (.isub, 17)), (17, (.aload 1, 18)), (18, (.dadd, 21)), (21, (.if_icmp .eq 26, 24)), (24, (.iconst 0, 25)), (25, (.freturn, 26)), (26, (.iconst 0, 27)), (27, (.istore 2, 28)), (28, (.iload 2, 29)), (29, (.aload 1, 30)), (30, (.dadd, 33)), (33, (.if_icmp .ge 63, 36)), (36, (.aload 0, 37)), (37, (.getfield 2051, 40)), (40, (.aload 0, 41)), (41, (.getfield 2060, 44)), (44, (.iload 2, 45)), (45, (.iadd, 46)), (46, (.baload, 47)), (47, (.aload 1, 48)), (48, (.iload 2, 49)), (49, (.dsub, 52)), (52, (.if_icmp .eq 57, 55)), (55, (.iconst 0, 56)), (56, (.freturn, 57)), (57, (.iinc 2 1, 60)), (60, (.goto 28, 63)), (63, (.iconst 1, 64)), (64, (.freturn, 65))]
def zc_Tape_step : List (Nat × (Instr × Nat)) := [(0, (.aload 0, 1)), (1, (.aload 0, 2)), (2, (.getfield 2064, 5)), (5, (.putfield 2060, 8)), (8, (.aload 0, 9)), (9, (.getfield 2060, 12)), (12, (.aload 0, 13)), (13, (.getfield 2052, 16)), (16, (.if_icmp .ge 46, 19)), (19, (.aload 0, 20)), (20, (.getfield 2051, 23)), (23, (.aload 0, 24)), (24, (.getfield 2060, 27)), (27, (.baload, 28)), (28, (.iconst 32, 30)), (30, (.if_icmp .ne 46, 33)), (33, (.aload 0, 34)), (34, (.dup, 35)), (35, (.getfield 2060, 38)), (38, (.iconst 1, 39)), (39, (.iadd, 40)), (40, (.putfield 2060, 43)), (43, (.goto 8, 46)), (46, (.aload 0, 47)), (47, (.aload 0, 48)), (48, (.getfield 2060, 51)), (51, (.putfield 2064, 54)), (54, (.aload 0, 55)), (55, (.aload 0, 56)), (56, (.aload 0, 57)), (57, (.getfield 2060, 60)), (60, (.invokevirtual 69762, 63)), (63, (.putfield 2056, 66)), (66, (.aload 0, 67)), (67, (.iconst 0, 68)), (68, (.putfield 2068, 71)), (71, (.aload 0, 72)), (72, (.getfield 2064, 75)), (75, (.aload 0, 76)), (76, (.getfield 2052, 79)), (79, (.if_icmp .ge 156, 82)), (82, (.aload 0, 83)), (83, (.aload 0, 84)), (84, (.getfield 2064, 87)), (87, (.invokevirtual 69762, 90)), (90, (.aload 0, 91)), (91, (.getfield 2056, 94)), (94, (.if_icmp .ne 156, 97)), (97, (.aload 0, 98)), (98, (.getfield 2056, 101)), (101, (.iconst 2, 102)), (102, (.if_icmp .ne 135, 105)), (105, (.aload 0, 106)), (106, (.aload 0, 107)), (107, (.getfield 2068, 110)), (110, (.iconst 10, 112)), (112, (.imul, 113)), (113, (.aload 0, 114)), (114, (.getfield 2051, 117)), (117, (.aload 0, 118)), (118, (.getfield 2064, 121)), (121, (.baload, 122)), (122, (.iadd, 123)), (123, (.iconst 48, 125)), (125, (.isub, 126)), (126, (.iconst 10000, 129)), (129, (.fadd, 132)), (132, (.putfield 2068, 135)), (135, (.aload 0, 136)), (136, (.dup, 137)), (137, (.getfield 2064, 140)), (140, (.iconst 1, 141)), (141, (.iadd, 142)), (142, (.putfield 2064, 145)), (145, (.aload 0, 146)), (146, (.getfield 2056, 149)), (149, (.iconst 3, 150)), (150, (.if_icmp .ne 71, 153)), (153, (.goto 156, 156)), (156, (.return_, 157))]
def zc_Tape_sortAt : List (Nat × (Instr × Nat)) := [(0, (.iload 1, 1)), (1, (.ifCond .lt 12, 4)), (4, (.iload 1, 5)), (5, (.aload 0, 6)), (6, (.getfield 2052, 9)), (9, (.if_icmp .lt 14, 12)), (12, (.iconst 0, 13)), (13, (.ireturn, 14)), (14, (.aload 0, 15)), (15, (.getfield 2051, 18)), (18, (.iload 1, 19)), (19, (.baload, 20)), (20, (.istore 2, 21)), (21, (.iload 2, 22)), (22, (.iconst 97, 24)), (24, (.if_icmp .lt 35, 27)), (27, (.iload 2, 28)), (28, (.iconst 122, 30)), (30, (.if_icmp .gt 35, 33)), (33, (.iconst 1, 34)), (34, (.ireturn, 35)), (35, (.iload 2, 36)), (36, (.iconst 48, 38)), (38, (.if_icmp .lt 49, 41)), (41, (.iload 2, 42)), (42, (.iconst 57, 44)), (44, (.if_icmp .gt 49, 47)), (47, (.iconst 2, 48)), (48, (.ireturn, 49)), (49, (.iload 2, 50)), (50, (.iconst 59, 52)), (52, (.if_icmp .ne 59, 55)), (55, (.iconst 3, 56)), (56, (.goto 60, 59)), (59, (.iconst 4, 60)), (60, (.ireturn, 61))]
def zc_X_init : List (Nat × (Instr × Nat)) := [(0, (.aload 0, 1)), (1, (.nop, 4)), (4, (.aload 0, 5)), (5, (.new 1801, 8)), (8, (.dup, 9)), (9, (.invokespecial 42097, 12)), (12, (.putfield 2307, 15)), (15, (.aload 0, 16)), (16, (.new 1801, 19)), (19, (.dup, 20)), (20, (.invokespecial 42097, 23)), (23, (.putfield 2311, 26)), (26, (.aload 0, 27)), (27, (.new 1801, 30)), (30, (.dup, 31)), (31, (.invokespecial 42097, 34)), (34, (.putfield 2315, 37)), (37, (.aload 0, 38)), (38, (.iconst 0, 39)), (39, (.putfield 2318, 42)), (42, (.aload 0, 43)), (43, (.new 1537, 46)), (46, (.dup, 47)), (47, (.invokespecial 34913, 50)), (50, (.putfield 2323, 53)), (53, (.aload 0, 54)), (54, (.new 1537, 57)), (57, (.dup, 58)), (58, (.invokespecial 34913, 61)), (61, (.putfield 2327, 64)), (64, (.aload 0, 65)), (65, (.new 1031, 68)), (68, (.dup, 69)), (69, (.invokespecial 26689, 72)), (72, (.putfield 2331, 75)), (75, (.aload 0, 76)), (76, (.new 257, 79)), (79, (.dup, 80)), (80, (.invokespecial 1041, 83)), (83, (.putfield 2335, 86)), (86, (.aload 0, 87)), (87, (.new 2054, 90)), (90, (.dup, 91)), (91, (.invokespecial 55425, 94)), (94, (.putfield 2339, 97)), (97, (.aload 0, 98)), (98, (.iconst 4, 99)), (99, (.anewarray 5, 102)), (102, (.putfield 2343, 105)), (105, (.aload 0, 106)), (106, (.iconst 7, 108)), (108, (.newarray .int, 110)), (110, (.putfield 2347, 113)), (113, (.iconst 0, 114)), (114, (.istore 1, 115)), (115, (.iload 1, 116)), (116, (.iconst 4, 117)), (117, (.if_icmp .ge 139, 120)), (120, (.aload 0, 121)), (121, (.getfield 2343, 124)), (124, (.iload 1, 125)), (125, (.new 1283, 128)), (128, (.dup, 129)), (129, (.invokespecial 30801, 132)), (132, (.aastore, 133)), (133, (.iinc 1 1, 136)), (136, (.goto 115, 139)), (139, (.return_, 140))]
def zc_X_cups : List (Nat × (Instr × Nat)) := [(0, (.iload 1, 1)), (1, (.iconst 3, 2)), (2, (.iconst 6, 4)), (4, (.invokestatic 137219, 7)), (7, (.ifCond .ne 17, 10)), (10, (.aload 0, 11)), (11, (.iconst (-1000001), 13)), (13, (.invokevirtual 123026, 16)), (16, (.ireturn, 17)), (17, (.aload 0, 18)), (18, (.getfield 2307, 21)), (21, (.getfield 1800, 24)), (24, (.ifCond .le 34, 27)), (27, (.aload 0, 28)), (28, (.iconst (-1000005), 30)), (30, (.invokevirtual 123026, 33)), (33, (.ireturn, 34)), (34, (.aload 0, 35)), (35, (.getfield 2307, 38)), (38, (.getfield 1792, 41)), (41, (.istore 2, 42)), (42, (.aload 0, 43)), (43, (.getfield 2307, 46)), (46, (.iload 1, 47)), (47, (.invokevirtual 44146, 50)), (50, (.iload 2, 51)), (51, (.ireturn, 52))]
def zc_X_pea : List (Nat × (Instr × Nat)) := [(0, (.aload 0, 1)), (1, (.iload 1, 2)), (2, (.invokevirtual 128146, 5)), (5, (.ifCond .ne 15, 8)), (8, (.aload 0, 9)), (9, (.iconst (-1000001), 11)), (11, (.invokevirtual 123026, 14)), (14, (.ireturn, 15)), (15, (.aload 0, 16)), (16, (.getfield 2307, 19)), (19, (.getfield 1796, 22)), (22, (.istore 2, 23)), (23, (.aload 0, 24)), (24, (.getfield 2307, 27)), (27, (.iload 1, 28)), (28, (.putfield 1796, 31)), (31, (.iload 2, 32)), (32, (.ireturn, 33))]
def zc_X_pass : List (Nat × (Instr × Nat)) := [(0, (.iload 1, 1)), (1, (.invokestatic 131073, 4)), (4, (.ifCond .eq 28, 7)), (7, (.aload 0, 8)), (8, (.iload 2, 9)), (9, (.invokevirtual 127122, 12)), (12, (.ifCond .eq 28, 15)), (15, (.aload 0, 16)), (16, (.iload 3, 17)), (17, (.invokevirtual 127122, 20)), (20, (.ifCond .eq 28, 23)), (23, (.iload 2, 24)), (24, (.iload 3, 25)), (25, (.if_icmp .ne 35, 28)), (28, (.aload 0, 29)), (29, (.iconst (-1000001), 31)), (31, (.invokevirtual 123026, 34)), (34, (.ireturn, 35)), (35, (.aload 0, 36)), (36, (.getfield 2307, 39)), (39, (.getfield 1800, 42)), (42, (.iconst 14, 44)), (44, (.if_icmp .lt 54, 47)), (47, (.aload 0, 48)), (48, (.iconst (-1000002), 50)), (50, (.invokevirtual 123026, 53)), (53, (.ireturn, 54)), (54, (.aload 0, 55)), (55, (.getfield 2307, 58)), (58, (.iload 1, 59)), (59, (.iload 2, 60)), (60, (.iload 3, 61)), (61, (.invokevirtual 45172, 64)), (64, (.aload 0, 65)), (65, (.getfield 2307, 68)), (68, (.getfield 1800, 71)), (71, (.iconst 1, 72)), (72, (.isub, 73)), (73, (.ireturn, 74))]
def zc_X_of : List (Nat × (Instr × Nat)) := [(0, (.aload 0, 1)), (1, (.iload 1, 2)), (2, (.invokevirtual 129170, 5)), (5, (.ifCond .eq 17, 8)), (8, (.iload 2, 9)), (9, (.iconst 0, 10)), (10, (.iconst 3, 11)), (11, (.invokestatic 137219, 14)), (14, (.ifCond .ne 24, 17)), (17, (.aload 0, 18)), (18, (.iconst (-1000001), 20)), (20, (.invokevirtual 123026, 23)), (23, (.ireturn, 24)), (24, (.aload 0, 25)), (25, (.getfield 2307, 28)), (28, (.getfield 1815, 31)), (31, (.iload 1, 32)), (32, (.aaload, 33)), (33, (.astore 3, 34)), (34, (.iload 2, 35)), (35, (.tableswitch 75 (0) (2) #[60, 65, 70], 60)), (60, (.aload 3, 61)), (61, (.getfield 512, 64)), (64, (.ireturn, 65)), (65, (.aload 3, 66)), (66, (.getfield 516, 69)), (69, (.ireturn, 70)), (70, (.aload 3, 71)), (71, (.getfield 520, 74)), (74, (.ireturn, 75)), (75, (.aload 3, 76)), (76, (.invokevirtual 8225, 79)), (79, (.ireturn, 80))]
def zc_X_change : List (Nat × (Instr × Nat)) := [(0, (.aload 0, 1)), (1, (.iload 1, 2)), (2, (.invokevirtual 129170, 5)), (5, (.ifCond .eq 15, 8)), (8, (.iload 2, 9)), (9, (.invokestatic 131073, 12)), (12, (.ifCond .ne 22, 15)), (15, (.aload 0, 16)), (16, (.iconst (-1000001), 18)), (18, (.invokevirtual 123026, 21)), (21, (.ireturn, 22)), (22, (.aload 0, 23)), (23, (.getfield 2307, 26)), (26, (.getfield 1815, 29)), (29, (.iload 1, 30)), (30, (.aaload, 31)), (31, (.getfield 512, 34)), (34, (.istore 3, 35)), (35, (.aload 0, 36)), (36, (.getfield 2307, 39)), (39, (.getfield 1815, 42)), (42, (.iload 1, 43)), (43, (.aaload, 44)), (44, (.iload 2, 45)), (45, (.putfield 512, 48)), (48, (.iload 3, 49)), (49, (.ireturn, 50))]
def zc_X_back : List (Nat × (Instr × Nat)) := [(0, (.aload 0, 1)), (1, (.getfield 2307, 4)), (4, (.getfield 1800, 7)), (7, (.ifCond .gt 17, 10)), (10, (.aload 0, 11)), (11, (.iconst (-1000004), 13)), (13, (.invokevirtual 123026, 16)), (16, (.ireturn, 17)), (17, (.aload 0, 18)), (18, (.getfield 2307, 21)), (21, (.dup, 22)), (22, (.getfield 1800, 25)), (25, (.iconst 1, 26)), (26, (.isub, 27)), (27, (.putfield 1800, 30)), (30, (.aload 0, 31)), (31, (.getfield 2307, 34)), (34, (.getfield 1800, 37)), (37, (.ireturn, 38))]
def zc_X_where : List (Nat × (Instr × Nat)) := [(0, (.aload 0, 1)), (1, (.iload 1, 2)), (2, (.invokevirtual 130194, 5)), (5, (.ifCond .ne 15, 8)), (8, (.aload 0, 9)), (9, (.iconst (-1000001), 11)), (11, (.invokevirtual 123026, 14)), (14, (.ireturn, 15)), (15, (.aload 0, 16)), (16, (.getfield 2307, 19)), (19, (.iload 1, 20)), (20, (.invokevirtual 46194, 23)), (23, (.ireturn, 24))]
def zc_X_goes : List (Nat × (Instr × Nat)) := [(0, (.aload 0, 1)), (1, (.iload 1, 2)), (2, (.invokevirtual 127122, 5)), (5, (.ifCond .eq 16, 8)), (8, (.aload 0, 9)), (9, (.iload 2, 10)), (10, (.invokevirtual 130194, 13)), (13, (.ifCond .ne 23, 16)), (16, (.aload 0, 17)), (17, (.iconst (-1000001), 19)), (19, (.invokevirtual 123026, 22)), (22, (.ireturn, 23)), (23, (.iload 1, 24)), (24, (.istore 3, 25)), (25, (.iconst 0, 26)), (26, (.istore 4, 28)), (28, (.iload 4, 30)), (30, (.iload 2, 31)), (31, (.if_icmp .ge 55, 34)), (34, (.aload 0, 35)), (35, (.getfield 2307, 38)), (38, (.getfield 1815, 41)), (41, (.iload 4, 43)), (43, (.aaload, 44)), (44, (.iload 3, 45)), (45, (.invokevirtual 9250, 48)), (48, (.istore 3, 49)), (49, (.iinc 4 1, 52)), (52, (.goto 28, 55)), (55, (.iload 3, 56)), (56, (.ireturn, 57))]
def zc_X_moves : List (Nat × (Instr × Nat)) := [(0, (.iconst 0, 1)), (1, (.istore 1, 2)), (2, (.aload 0, 3)), (3, (.getfield 2307, 6)), (6, (.getfield 1796, 9)), (9, (.istore 2, 10)), (10, (.iconst 0, 11)), (11, (.istore 3, 12)), (12, (.iload 3, 13)), (13, (.aload 0, 14)), (14, (.getfield 2307, 17)), (17, (.getfield 1800, 20)), (20, (.if_icmp .ge 59, 23)), (23, (.aload 0, 24)), (24, (.getfield 2307, 27)), (27, (.getfield 1815, 30)), (30, (.iload 3, 31)), (31, (.aaload, 32)), (32, (.iload 2, 33)), (33, (.invokevirtual 11298, 36)), (36, (.istore 4, 38)), (38, (.iload 4, 40)), (40, (.iload 2, 41)), (41, (.if_icmp .eq 50, 44)), (44, (.iload 1, 45)), (45, (.iconst 1, 46)), (46, (.iload 3, 47)), (47, (.ishl, 48)), (48, (.ior, 49)), (49, (.istore 1, 50)), (50, (.iload 4, 52)), (52, (.istore 2, 53)), (53, (.iinc 3 1, 56)), (56, (.goto 12, 59)), (59, (.iload 1, 60)), (60, (.ireturn, 61))]
def zc_X_eye : List (Nat × (Instr × Nat)) := [(0, (.iload 1, 1)), (1, (.invokestatic 132097, 4)), (4, (.ifCond .eq 16, 7)), (7, (.iload 2, 8)), (8, (.iconst 0, 9)), (9, (.iconst 1, 10)), (10, (.invokestatic 137219, 13)), (13, (.ifCond .ne 23, 16)), (16, (.aload 0, 17)), (17, (.iconst (-1000001), 19)), (19, (.invokevirtual 123026, 22)), (22, (.ireturn, 23)), (23, (.aload 0, 24)), (24, (.getfield 2307, 27)), (27, (.getfield 1819, 30)), (30, (.iload 1, 31)), (31, (.aaload, 32)), (32, (.astore 4, 34)), (34, (.iload 2, 35)), (35, (.ifCond .ne 71, 38)), (38, (.iload 3, 39)), (39, (.iconst 0, 40)), (40, (.iconst 10, 42)), (42, (.invokestatic 137219, 45)), (45, (.ifCond .ne 55, 48)), (48, (.aload 0, 49)), (49, (.iconst (-1000001), 51)), (51, (.invokevirtual 123026, 54)), (54, (.ireturn, 55)), (55, (.aload 4, 57)), (57, (.getfield 0, 60)), (60, (.istore 5, 62)), (62, (.aload 4, 64)), (64, (.iload 3, 65)), (65, (.putfield 0, 68)), (68, (.iload 5, 70)), (70, (.ireturn, 71)), (71, (.aload 0, 72)), (72, (.iload 3, 73)), (73, (.invokevirtual 127122, 76)), (76, (.ifCond .ne 86, 79)), (79, (.aload 0, 80)), (80, (.iconst (-1000001), 82)), (82, (.invokevirtual 123026, 85)), (85, (.ireturn, 86)), (86, (.aload 4, 88)), (88, (.getfield 4, 91)), (91, (.istore 5, 93)), (93, (.aload 4, 95)), (95, (.iload 3, 96)), (96, (.putfield 4, 99)), (99, (.iload 5, 101)), (101, (.ireturn, 102))]
def zc_X_weight : List (Nat × (Instr × Nat)) := [(0, (.iload 1, 1)), (1, (.invokestatic 132097, 4)), (4, (.ifCond .eq 23, 7)), (7, (.aload 0, 8)), (8, (.iload 2, 9)), (9, (.invokevirtual 130194, 12)), (12, (.ifCond .eq 23, 15)), (15, (.aload 0, 16)), (16, (.iload 3, 17)), (17, (.invokevirtual 127122, 20)), (20, (.ifCond .ne 31, 23)), (23, (.aload 0, 24)), (24, (.iconst (-1000001), 26)), (26, (.invokevirtual 123026, 29)), (29, (.i2l, 30)), (30, (.lreturn, 31)), (31, (.aload 0, 32)), (32, (.getfield 2323, 35)), (35, (.aload 0, 36)), (36, (.getfield 2307, 39)), (39, (.iload 1, 40)), (40, (.iconst (-1), 41)), (41, (.invokevirtual 35940, 44)), (44, (.aload 0, 45)), (45, (.getfield 2323, 48)), (48, (.iload 2, 49)), (49, (.iload 3, 50)), (50, (.invokevirtual 39011, 53)), (53, (.lreturn, 54))]
def zc_X_guess : List (Nat × (Instr × Nat)) := [(0, (.iload 1, 1)), (1, (.invokestatic 132097, 4)), (4, (.ifCond .ne 14, 7)), (7, (.aload 0, 8)), (8, (.iconst (-1000001), 10)), (10, (.invokevirtual 123026, 13)), (13, (.ireturn, 14)), (14, (.aload 0, 15)), (15, (.iload 1, 16)), (16, (.invokevirtual 124050, 19)), (19, (.ireturn, 20))]
def zc_X_right : List (Nat × (Instr × Nat)) := [(0, (.iload 1, 1)), (1, (.invokestatic 132097, 4)), (4, (.ifCond .ne 15, 7)), (7, (.aload 0, 8)), (8, (.iconst (-1000001), 10)), (10, (.invokevirtual 123026, 13)), (13, (.i2l, 14)), (14, (.lreturn, 15)), (15, (.aload 0, 16)), (16, (.iload 1, 17)), (17, (.iconst (-1), 18)), (18, (.invokevirtual 125075, 21)), (21, (.lreturn, 22))]
def zc_X_lost : List (Nat × (Instr × Nat)) := [(0, (.iload 1, 1)), (1, (.invokestatic 132097, 4)), (4, (.ifCond .ne 14, 7)), (7, (.aload 0, 8)), (8, (.iconst (-1000001), 10)), (10, (.invokevirtual 123026, 13)), (13, (.ireturn, 14)), (14, (.aload 0, 15)), (15, (.getfield 2323, 18)), (18, (.aload 0, 19)), (19, (.getfield 2307, 22)), (22, (.iload 1, 23)), (23, (.iconst (-1), 24)), (24, (.invokevirtual 35940, 27)), (27, (.iconst 0, 28)), (28, (.istore 2, 29)), (29, (.iload 2, 30)), (30, (.aload 0, 31)), (31, (.getfield 2307, 34)), (34, (.getfield 1800, 37)), (37, (.if_icmp .gt 67, 40)), (40, (.aload 0, 41)), (41, (.getfield 2323, 44)), (44, (.iload 2, 45)), (45, (.invokevirtual 40034, 48)), (48, (.aload 0, 49)), (49, (.getfield 2307, 52)), (52, (.iload 2, 53)), (53, (.invokevirtual 46194, 56)), (56, (.if_icmp .eq 61, 59)), (59, (.iload 2, 60)), (60, (.ireturn, 61)), (61, (.iinc 2 1, 64)), (64, (.goto 29, 67)), (67, (.aload 0, 68)), (68, (.iconst (-1000004), 70)), (70, (.invokevirtual 123026, 73)), (73, (.ireturn, 74))]
def zc_X_both : List (Nat × (Instr × Nat)) := [(0, (.iload 1, 1)), (1, (.invokestatic 132097, 4)), (4, (.ifCond .eq 19, 7)), (7, (.iload 2, 8)), (8, (.invokestatic 132097, 11)), (11, (.ifCond .eq 19, 14)), (14, (.iload 1, 15)), (15, (.iload 2, 16)), (16, (.if_icmp .ne 26, 19)), (19, (.aload 0, 20)), (20, (.iconst (-1000001), 22)), (22, (.invokevirtual 123026, 25)), (25, (.ireturn, 26)), (26, (.aload 0, 27)), (27, (.getfield 2307, 30)), (30, (.getfield 1800, 33)), (33, (.iconst 9, 35)), (35, (.if_icmp .le 45, 38)), (38, (.aload 0, 39)), (39, (.iconst (-1000007), 41)), (41, (.invokevirtual 123026, 44)), (44, (.ireturn, 45)), (45, (.aload 0, 46)), (46, (.getfield 2323, 49)), (49, (.aload 0, 50)), (50, (.getfield 2307, 53)), (53, (.iload 1, 54)), (54, (.iconst (-1), 55)), (55, (.invokevirtual 35940, 58)), (58, (.aload 0, 59)), (59, (.getfield 2327, 62)), (62, (.aload 0, 63)), (63, (.getfield 2307, 66)), (66, (.iload 2, 67)), (67, (.iconst (-1), 68)), (68, (.invokevirtual 35940, 71)), (71, (.aload 0, 72)), (72, (.getfield 2323, 75)), (75, (.aload 0, 76)), (76, (.getfield 2327, 79)), (79, (.aload 0, 80)), (80, (.getfield 2307, 83)), (83, (.getfield 1800, 86)), (86, (.invokevirtual 41059, 89)), (89, (.istore 3, 90)), (90, (.iload 3, 91)), (91, (.ifCond .ge 103, 94)), (94, (.aload 0, 95)), (95, (.iconst (-1000004), 97)), (97, (.invokevirtual 123026, 100)), (100, (.goto 104, 103)), (103, (.iload 3, 104)), (104, (.ireturn, 105))]
def zc_X_may : List (Nat × (Instr × Nat)) := [(0, (.iload 1, 1)), (1, (.invokestatic 132097, 4)), (4, (.ifCond .ne 14, 7)), (7, (.aload 0, 8)), (8, (.iconst (-1000001), 10)), (10, (.invokevirtual 123026, 13)), (13, (.ireturn, 14)), (14, (.aload 0, 15)), (15, (.getfield 2323, 18)), (18, (.aload 0, 19)), (19, (.getfield 2307, 22)), (22, (.iload 1, 23)), (23, (.iconst (-1), 24)), (24, (.invokevirtual 35940, 27)), (27, (.iconst 0, 28)), (28, (.istore 2, 29)), (29, (.iconst 0, 30)), (30, (.istore 3, 31)), (31, (.iload 3, 32)), (32, (.aload 0, 33)), (33, (.getfield 2307, 36)), (36, (.getfield 1792, 39)), (39, (.if_icmp .ge 74, 42)), (42, (.aload 0, 43)), (43, (.getfield 2323, 46)), (46, (.aload 0, 47)), (47, (.getfield 2307, 50)), (50, (.getfield 1800, 53)), (53, (.iload 3, 54)), (54, (.invokevirtual 39011, 57)), (57, (.sipush 0, 58)), (58, (.lcmp, 59)), (59, (.ifCond .le 68, 62)), (62, (.iload 2, 63)), (63, (.iconst 1, 64)), (64, (.iload 3, 65)), (65, (.ishl, 66)), (66, (.ior, 67)), (67, (.istore 2, 68)), (68, (.iinc 3 1, 71)), (71, (.goto 31, 74)), (74, (.iload 2, 75)), (75, (.ireturn, 76))]
def zc_X_watch : List (Nat × (Instr × Nat)) := [(0, (.iload 1, 1)), (1, (.invokestatic 132097, 4)), (4, (.ifCond .ne 14, 7)), (7, (.aload 0, 8)), (8, (.iconst (-1000001), 10)), (10, (.invokevirtual 123026, 13)), (13, (.ireturn, 14)), (14, (.aload 0, 15)), (15, (.getfield 2307, 18)), (18, (.getfield 1800, 21)), (21, (.ifCond .gt 31, 24)), (24, (.aload 0, 25)), (25, (.iconst (-1000004), 27)), (27, (.invokevirtual 123026, 30)), (30, (.ireturn, 31)), (31, (.iconst 0, 32)), (32, (.istore 2, 33)), (33, (.sipush (-1), 36)), (36, (.lstore 3, 37)), (37, (.iconst 0, 38)), (38, (.istore 5, 40)), (40, (.iload 5, 42)), (42, (.aload 0, 43)), (43, (.getfield 2307, 46)), (46, (.getfield 1800, 49)), (49, (.if_icmp .ge 80, 52)), (52, (.aload 0, 53)), (53, (.iload 1, 54)), (54, (.iload 5, 56)), (56, (.invokevirtual 125075, 59)), (59, (.lstore 6, 61)), (61, (.lload 6, 63)), (63, (.lload 3, 64)), (64, (.lcmp, 65)), (65, (.ifCond .le 74, 68)), (68, (.lload 6, 70)), (70, (.lstore 3, 71)), (71, (.iload 5, 73)), (73, (.istore 2, 74)), (74, (.iinc 5 1, 77)), (77, (.goto 40, 80)), (80, (.iload 2, 81)), (81, (.ireturn, 82))]
def zc_X_feint : List (Nat × (Instr × Nat)) := [(0, (.iload 1, 1)), (1, (.invokestatic 132097, 4)), (4, (.ifCond .ne 14, 7)), (7, (.aload 0, 8)), (8, (.iconst (-1000001), 10)), (10, (.invokevirtual 123026, 13)), (13, (.ireturn, 14)), (14, (.aload 0, 15)), (15, (.getfield 2307, 18)), (18, (.getfield 1800, 21)), (21, (.ifCond .gt 31, 24)), (24, (.aload 0, 25)), (25, (.iconst (-1000004), 27)), (27, (.invokevirtual 123026, 30)), (30, (.ireturn, 31)), (31, (.iconst 0, 32)), (32, (.istore 2, 33)), (33, (.sipush (1000000000000000), 36)), (36, (.lstore 3, 37)), (37, (.iconst 0, 38)), (38, (.istore 5, 40)), (40, (.iload 5, 42)), (42, (.aload 0, 43)), (43, (.getfield 2307, 46)), (46, (.getfield 1800, 49)), (49, (.if_icmp .ge 81, 52)), (52, (.aload 0, 53)), (53, (.iload 1, 54)), (54, (.iload 5, 56)), (56, (.iconst 1, 57)), (57, (.invokevirtual 126100, 60)), (60, (.lstore 6, 62)), (62, (.lload 6, 64)), (64, (.lload 3, 65)), (65, (.lcmp, 66)), (66, (.ifCond .ge 75, 69)), (69, (.lload 6, 71)), (71, (.lstore 3, 72)), (72, (.iload 5, 74)), (74, (.istore 2, 75)), (75, (.iinc 5 1, 78)), (78, (.goto 40, 81)), (81, (.iload 2, 82)), (82, (.ireturn, 83))]
def zc_X_kindFor : List (Nat × (Instr × Nat)) := [(0, (.iload 1, 1)), (1, (.invokestatic 132097, 4)), (4, (.ifCond .eq 15, 7)), (7, (.aload 0, 8)), (8, (.iload 2, 9)), (9, (.invokevirtual 129170, 12)), (12, (.ifCond .ne 22, 15)), (15, (.aload 0, 16)), (16, (.iconst (-1000001), 18)), (18, (.invokevirtual 123026, 21)), (21, (.ireturn, 22)), (22, (.iconst 0, 23)), (23, (.istore 3, 24)), (24, (.sipush (1000000000000000), 27)), (27, (.lstore 4, 29)), (29, (.iconst 0, 30)), (30, (.istore 6, 32)), (32, (.iload 6, 34)), (34, (.iconst 7, 36)), (36, (.if_icmp .ge 70, 39)), (39, (.aload 0, 40)), (40, (.iload 1, 41)), (41, (.iload 2, 42)), (42, (.iload 6, 44)), (44, (.invokevirtual 126100, 47)), (47, (.lstore 7, 49)), (49, (.lload 7, 51)), (51, (.lload 4, 53)), (53, (.lcmp, 54)), (54, (.ifCond .ge 64, 57)), (57, (.lload 7, 59)), (59, (.lstore 4, 61)), (61, (.iload 6, 63)), (63, (.istore 3, 64)), (64, (.iinc 6 1, 67)), (67, (.goto 32, 70)), (70, (.iload 3, 71)), (71, (.ireturn, 72))]
def zc_X_misled : List (Nat × (Instr × Nat)) := [(0, (.iload 1, 1)), (1, (.invokestatic 132097, 4)), (4, (.ifCond .eq 23, 7)), (7, (.iload 2, 8)), (8, (.iconst 1, 9)), (9, (.iconst 4, 10)), (10, (.invokestatic 137219, 13)), (13, (.ifCond .eq 23, 16)), (16, (.iload 3, 17)), (17, (.invokestatic 131073, 20)), (20, (.ifCond .ne 31, 23)), (23, (.aload 0, 24)), (24, (.iconst (-1000001), 26)), (26, (.invokevirtual 123026, 29)), (29, (.i2l, 30)), (30, (.lreturn, 31)), (31, (.aload 0, 32)), (32, (.getfield 2307, 35)), (35, (.getfield 1800, 38)), (38, (.iload 2, 39)), (39, (.iadd, 40)), (40, (.iconst 14, 42)), (42, (.if_icmp .le 53, 45)), (45, (.aload 0, 46)), (46, (.iconst (-1000002), 48)), (48, (.invokevirtual 123026, 51)), (51, (.i2l, 52)), (52, (.lreturn, 53)), (53, (.aload 0, 54)), (54, (.getfield 2331, 57)), (57, (.aload 0, 58)), (58, (.getfield 2307, 61)), (61, (.aload 0, 62)), (62, (.getfield 2323, 65)), (65, (.iload 1, 66)), (66, (.iload 2, 67)), (67, (.iload 3, 68)), (68, (.invokevirtual 27718, 71)), (71, (.aload 0, 72)), (72, (.getfield 2331, 75)), (75, (.getfield 1037, 78)), (78, (.lreturn, 79))]
def zc_X_row : List (Nat × (Instr × Nat)) := [(0, (.iload 1, 1)), (1, (.invokestatic 132097, 4)), (4, (.ifCond .eq 35, 7)), (7, (.iload 2, 8)), (8, (.iconst 1, 9)), (9, (.iconst 4, 10)), (10, (.invokestatic 137219, 13)), (13, (.ifCond .eq 35, 16)), (16, (.iload 3, 17)), (17, (.invokestatic 131073, 20)), (20, (.ifCond .eq 35, 23)), (23, (.iload 4, 25)), (25, (.iconst 0, 26)), (26, (.iload 2, 27)), (27, (.iconst 1, 28)), (28, (.isub, 29)), (29, (.invokestatic 137219, 32)), (32, (.ifCond .ne 42, 35)), (35, (.aload 0, 36)), (36, (.iconst (-1000001), 38)), (38, (.invokevirtual 123026, 41)), (41, (.ireturn, 42)), (42, (.aload 0, 43)), (43, (.getfield 2307, 46)), (46, (.getfield 1800, 49)), (49, (.iload 2, 50)), (50, (.iadd, 51)), (51, (.iconst 14, 53)), (53, (.if_icmp .le 63, 56)), (56, (.aload 0, 57)), (57, (.iconst (-1000002), 59)), (59, (.invokevirtual 123026, 62)), (62, (.ireturn, 63)), (63, (.aload 0, 64)), (64, (.getfield 2331, 67)), (67, (.aload 0, 68)), (68, (.getfield 2307, 71)), (71, (.aload 0, 72)), (72, (.getfield 2323, 75)), (75, (.iload 1, 76)), (76, (.iload 2, 77)), (77, (.iload 3, 78)), (78, (.invokevirtual 27718, 81)), (81, (.aload 0, 82)), (82, (.getfield 2331, 85)), (85, (.getfield 1047, 88)), (88, (.iload 4, 90)), (90, (.iaload, 91)), (91, (.ireturn, 92))]
def zc_X_feints : List (Nat × (Instr × Nat)) := [(0, (.aload 0, 1)), (1, (.iload 1, 2)), (2, (.invokevirtual 128146, 5)), (5, (.ifCond .ne 15, 8)), (8, (.aload 0, 9)), (9, (.iconst (-1000001), 11)), (11, (.invokevirtual 123026, 14)), (14, (.ireturn, 15)), (15, (.iconst 0, 16)), (16, (.istore 2, 17)), (17, (.aload 0, 18)), (18, (.getfield 2307, 21)), (21, (.invokevirtual 47217, 24)), (24, (.istore 3, 25)), (25, (.iconst 0, 26)), (26, (.istore 4, 28)), (28, (.iload 4, 30)), (30, (.iload 3, 31)), (31, (.if_icmp .ge 56, 34)), (34, (.aload 0, 35)), (35, (.getfield 2307, 38)), (38, (.iload 4, 40)), (40, (.invokevirtual 48242, 43)), (43, (.iload 1, 44)), (44, (.if_icmp .ne 50, 47)), (47, (.iinc 2 1, 50)), (50, (.iinc 4 1, 53)), (53, (.goto 28, 56)), (56, (.iload 2, 57)), (57, (.ireturn, 58))]
def zc_X_surely : List (Nat × (Instr × Nat)) := [(0, (.aload 0, 1)), (1, (.iload 1, 2)), (2, (.invokevirtual 128146, 5)), (5, (.ifCond .eq 17, 8)), (8, (.iload 2, 9)), (9, (.iconst 0, 10)), (10, (.iconst 2, 11)), (11, (.invokestatic 137219, 14)), (14, (.ifCond .ne 24, 17)), (17, (.aload 0, 18)), (18, (.iconst (-1000001), 20)), (20, (.invokevirtual 123026, 23)), (23, (.ireturn, 24)), (24, (.iconst (-1), 25)), (25, (.istore 3, 26)), (26, (.iconst 0, 27)), (27, (.istore 4, 29)), (29, (.iconst 0, 30)), (30, (.istore 5, 32)), (32, (.aload 0, 33)), (33, (.getfield 2307, 36)), (36, (.invokevirtual 47217, 39)), (39, (.istore 6, 41)), (41, (.iconst 0, 42)), (42, (.istore 7, 44)), (44, (.iload 7, 46)), (46, (.iload 6, 48)), (48, (.if_icmp .ge 96, 51)), (51, (.aload 0, 52)), (52, (.getfield 2307, 55)), (55, (.iload 7, 57)), (57, (.invokevirtual 48242, 60)), (60, (.iload 1, 61)), (61, (.if_icmp .ne 90, 64)), (64, (.iload 3, 65)), (65, (.iconst (-1), 66)), (66, (.if_icmp .ne 76, 69)), (69, (.iload 7, 71)), (71, (.istore 3, 72)), (72, (.iload 7, 74)), (74, (.istore 4, 76)), (76, (.iload 4, 78)), (78, (.iload 7, 80)), (80, (.iand, 81)), (81, (.istore 4, 83)), (83, (.iload 5, 85)), (85, (.iload 7, 87)), (87, (.ior, 88)), (88, (.istore 5, 90)), (90, (.iinc 7 1, 93)), (93, (.goto 44, 96)), (96, (.iload 3, 97)), (97, (.iconst (-1), 98)), (98, (.if_icmp .ne 108, 101)), (101, (.aload 0, 102)), (102, (.iconst (-1000004), 104)), (104, (.invokevirtual 123026, 107)), (107, (.ireturn, 108)), (108, (.iload 2, 109)), (109, (.ifCond .ne 116, 112)), (112, (.iload 3, 113)), (113, (.goto 128, 116)), (116, (.iload 2, 117)), (117, (.iconst 1, 118)), (118, (.if_icmp .ne 126, 121)), (121, (.iload 4, 123)), (123, (.goto 128, 126)), (126, (.iload 5, 128)), (128, (.ireturn, 129))]
def zc_X_rings : List (Nat × (Instr × Nat)) := [(0, (.iconst 0, 1)), (1, (.istore 1, 2)), (2, (.iconst 0, 3)), (3, (.istore 2, 4)), (4, (.iload 2, 5)), (5, (.aload 0, 6)), (6, (.getfield 2307, 9)), (9, (.getfield 1800, 12)), (12, (.if_icmp .ge 49, 15)), (15, (.aload 0, 16)), (16, (.getfield 2307, 19)), (19, (.getfield 1815, 22)), (22, (.iload 2, 23)), (23, (.aaload, 24)), (24, (.astore 3, 25)), (25, (.iload 1, 26)), (26, (.aload 3, 27)), (27, (.getfield 516, 30)), (30, (.invokestatic 139265, 33)), (33, (.aload 3, 34)), (34, (.invokevirtual 8225, 37)), (37, (.invokestatic 139265, 40)), (40, (.iadd, 41)), (41, (.iadd, 42)), (42, (.istore 1, 43)), (43, (.iinc 2 1, 46)), (46, (.goto 4, 49)), (49, (.iload 1, 50)), (50, (.ireturn, 51))]
def zc_X_orders : List (Nat × (Instr × Nat)) := [(0, (.aload 0, 1)), (1, (.iload 1, 2)), (2, (.invokevirtual 128146, 5)), (5, (.ifCond .ne 15, 8)), (8, (.aload 0, 9)), (9, (.iconst (-1000001), 11)), (11, (.invokevirtual 123026, 14)), (14, (.ireturn, 15)), (15, (.aload 0, 16)), (16, (.getfield 2307, 19)), (19, (.getfield 1800, 22)), (22, (.iconst 7, 24)), (24, (.if_icmp .le 34, 27)), (27, (.aload 0, 28)), (28, (.iconst (-1000007), 30)), (30, (.invokevirtual 123026, 33)), (33, (.ireturn, 34)), (34, (.aload 0, 35)), (35, (.getfield 2335, 38)), (38, (.aload 0, 39)), (39, (.getfield 2307, 42)), (42, (.iload 1, 43)), (43, (.invokevirtual 2067, 46)), (46, (.ireturn, 47))]
def zc_X_player : List (Nat × (Instr × Nat)) := [(0, (.iload 1, 1)), (1, (.invokestatic 133121, 4)), (4, (.ifCond .eq 33, 7)), (7, (.iload 2, 8)), (8, (.iconst 0, 9)), (9, (.iconst 2, 10)), (10, (.invokestatic 137219, 13)), (13, (.ifCond .eq 33, 16)), (16, (.iload 3, 17)), (17, (.getstatic 2, 20)), (20, (.iload 2, 21)), (21, (.iaload, 22)), (22, (.getstatic 3, 25)), (25, (.iload 2, 26)), (26, (.iaload, 27)), (27, (.invokestatic 137219, 30)), (30, (.ifCond .ne 40, 33)), (33, (.aload 0, 34)), (34, (.iconst (-1000001), 36)), (36, (.invokevirtual 123026, 39)), (39, (.ireturn, 40)), (40, (.aload 0, 41)), (41, (.getfield 2307, 44)), (44, (.getfield 1823, 47)), (47, (.iload 1, 48)), (48, (.aaload, 49)), (49, (.astore 4, 51)), (51, (.aload 4, 53)), (53, (.iload 2, 54)), (54, (.invokevirtual 14386, 57)), (57, (.istore 5, 59)), (59, (.aload 4, 61)), (61, (.iload 2, 62)), (62, (.iload 3, 63)), (63, (.invokevirtual 15411, 66)), (66, (.iload 5, 68)), (68, (.ireturn, 69))]
def zc_X_told : List (Nat × (Instr × Nat)) := [(0, (.iload 1, 1)), (1, (.invokestatic 133121, 4)), (4, (.ifCond .eq 16, 7)), (7, (.iload 2, 8)), (8, (.iconst 0, 9)), (9, (.iconst 4, 10)), (10, (.invokestatic 137219, 13)), (13, (.ifCond .ne 23, 16)), (16, (.aload 0, 17)), (17, (.iconst (-1000001), 19)), (19, (.invokevirtual 123026, 22)), (22, (.ireturn, 23)), (23, (.aload 0, 24)), (24, (.getfield 2307, 27)), (27, (.getfield 1823, 30)), (30, (.iload 1, 31)), (31, (.aaload, 32)), (32, (.iload 2, 33)), (33, (.invokevirtual 14386, 36)), (36, (.ireturn, 37))]
def zc_X_round : List (Nat × (Instr × Nat)) := [(0, (.iload 1, 1)), (1, (.invokestatic 133121, 4)), (4, (.ifCond .eq 16, 7)), (7, (.iload 2, 8)), (8, (.iconst 0, 9)), (9, (.iconst 1, 10)), (10, (.invokestatic 137219, 13)), (13, (.ifCond .ne 23, 16)), (16, (.aload 0, 17)), (17, (.iconst (-1000001), 19)), (19, (.invokevirtual 123026, 22)), (22, (.ireturn, 23)), (23, (.aload 0, 24)), (24, (.getfield 2307, 27)), (27, (.getfield 1823, 30)), (30, (.iload 1, 31)), (31, (.aaload, 32)), (32, (.invokevirtual 17457, 35)), (35, (.ifCond .eq 45, 38)), (38, (.aload 0, 39)), (39, (.iconst (-1000005), 41)), (41, (.invokevirtual 123026, 44)), (44, (.ireturn, 45)), (45, (.aload 0, 46)), (46, (.getfield 2307, 49)), (49, (.iload 1, 50)), (50, (.iload 2, 51)), (51, (.iconst 1, 52)), (52, (.if_icmp .ne 59, 55)), (55, (.iconst 1, 56)), (56, (.goto 60, 59)), (59, (.iconst 0, 60)), (60, (.invokevirtual 49267, 63)), (63, (.ireturn, 64))]
def zc_X_play : List (Nat × (Instr × Nat)) := [(0, (.iload 1, 1)), (1, (.invokestatic 133121, 4)), (4, (.ifCond .eq 14, 7)), (7, (.iload 2, 8)), (8, (.invokestatic 132097, 11)), (11, (.ifCond .ne 21, 14)), (14, (.aload 0, 15)), (15, (.iconst (-1000001), 17)), (17, (.invokevirtual 123026, 20)), (20, (.ireturn, 21)), (21, (.aload 0, 22)), (22, (.getfield 2307, 25)), (25, (.getfield 1823, 28)), (28, (.iload 1, 29)), (29, (.aaload, 30)), (30, (.invokevirtual 17457, 33)), (33, (.ifCond .eq 43, 36)), (36, (.aload 0, 37)), (37, (.iconst (-1000005), 39)), (39, (.invokevirtual 123026, 42)), (42, (.ireturn, 43)), (43, (.aload 0, 44)), (44, (.iload 2, 45)), (45, (.invokevirtual 124050, 48)), (48, (.aload 0, 49)), (49, (.getfield 2307, 52)), (52, (.aload 0, 53)), (53, (.getfield 2307, 56)), (56, (.getfield 1800, 59)), (59, (.invokevirtual 46194, 62)), (62, (.if_icmp .ne 69, 65)), (65, (.iconst 1, 66)), (66, (.goto 70, 69)), (69, (.iconst 0, 70)), (70, (.istore 3, 71)), (71, (.aload 0, 72)), (72, (.getfield 2307, 75)), (75, (.iload 1, 76)), (76, (.iload 3, 77)), (77, (.invokevirtual 49267, 80)), (80, (.pop, 81)), (81, (.iload 3, 82)), (82, (.ifCond .eq 89, 85)), (85, (.iconst 1, 86)), (86, (.goto 90, 89)), (89, (.iconst 0, 90)), (90, (.ireturn, 91))]
def zc_X_best : List (Nat × (Instr × Nat)) := [(0, (.iload 1, 1)), (1, (.invokestatic 133121, 4)), (4, (.ifCond .eq 14, 7)), (7, (.iload 2, 8)), (8, (.invokestatic 134145, 11)), (11, (.ifCond .ne 21, 14)), (14, (.aload 0, 15)), (15, (.iconst (-1000001), 17)), (17, (.invokevirtual 123026, 20)), (20, (.ireturn, 21)), (21, (.aload 0, 22)), (22, (.getfield 2307, 25)), (25, (.getfield 1823, 28)), (28, (.iload 1, 29)), (29, (.aaload, 30)), (30, (.iload 2, 31)), (31, (.invokevirtual 19506, 34)), (34, (.ireturn, 35))]
def zc_X_should : List (Nat × (Instr × Nat)) := [(0, (.iload 1, 1)), (1, (.invokestatic 133121, 4)), (4, (.ifCond .eq 14, 7)), (7, (.iload 2, 8)), (8, (.invokestatic 134145, 11)), (11, (.ifCond .ne 21, 14)), (14, (.aload 0, 15)), (15, (.iconst (-1000001), 17)), (17, (.invokevirtual 123026, 20)), (20, (.ireturn, 21)), (21, (.aload 0, 22)), (22, (.getfield 2307, 25)), (25, (.getfield 1823, 28)), (28, (.iload 1, 29)), (29, (.aaload, 30)), (30, (.astore 3, 31)), (31, (.aload 3, 32)), (32, (.iload 2, 33)), (33, (.invokevirtual 19506, 36)), (36, (.ifCond .ne 41, 39)), (39, (.iconst (-1), 40)), (40, (.ireturn, 41)), (41, (.aload 3, 42)), (42, (.getfield 768, 45)), (45, (.aload 3, 46)), (46, (.getfield 772, 49)), (49, (.aload 3, 50)), (50, (.getfield 776, 53)), (53, (.iload 2, 54)), (54, (.invokestatic 24580, 57)), (57, (.istore 4, 59)), (59, (.aload 3, 60)), (60, (.getfield 768, 63)), (63, (.aload 3, 64)), (64, (.getfield 772, 67)), (67, (.aload 3, 68)), (68, (.getfield 780, 71)), (71, (.aload 3, 72)), (72, (.getfield 776, 75)), (75, (.iload 2, 76)), (76, (.invokestatic 25605, 79)), (79, (.istore 5, 81)), (81, (.iload 4, 83)), (83, (.iload 5, 85)), (85, (.if_icmp .le 92, 88)), (88, (.iconst 1, 89)), (89, (.goto 93, 92)), (92, (.iconst 0, 93)), (93, (.ireturn, 94))]
def zc_X_richest : List (Nat × (Instr × Nat)) := [(0, (.iload 1, 1)), (1, (.invokestatic 134145, 4)), (4, (.ifCond .ne 14, 7)), (7, (.aload 0, 8)), (8, (.iconst (-1000001), 10)), (10, (.invokevirtual 123026, 13)), (13, (.ireturn, 14)), (14, (.iconst 0, 15)), (15, (.istore 2, 16)), (16, (.iconst (-1), 17)), (17, (.istore 3, 18)), (18, (.iconst 0, 19)), (19, (.istore 4, 21)), (21, (.iload 4, 23)), (23, (.iconst 4, 24)), (24, (.if_icmp .ge 61, 27)), (27, (.aload 0, 28)), (28, (.getfield 2307, 31)), (31, (.getfield 1823, 34)), (34, (.iload 4, 36)), (36, (.aaload, 37)), (37, (.iload 1, 38)), (38, (.invokevirtual 19506, 41)), (41, (.istore 5, 43)), (43, (.iload 5, 45)), (45, (.iload 3, 46)), (46, (.if_icmp .le 55, 49)), (49, (.iload 5, 51)), (51, (.istore 3, 52)), (52, (.iload 4, 54)), (54, (.istore 2, 55)), (55, (.iinc 4 1, 58)), (58, (.goto 21, 61)), (61, (.iload 2, 62)), (62, (.ireturn, 63))]
def zc_X_now : List (Nat × (Instr × Nat)) := [(0, (.iload 1, 1)), (1, (.tableswitch 76 (0) (4) #[36, 44, 52, 60, 68], 36)), (36, (.aload 0, 37)), (37, (.getfield 2307, 40)), (40, (.getfield 1804, 43)), (43, (.ireturn, 44)), (44, (.aload 0, 45)), (45, (.getfield 2307, 48)), (48, (.getfield 1792, 51)), (51, (.ireturn, 52)), (52, (.aload 0, 53)), (53, (.getfield 2307, 56)), (56, (.getfield 1800, 59)), (59, (.ireturn, 60)), (60, (.aload 0, 61)), (61, (.getfield 2307, 64)), (64, (.getfield 1796, 67)), (67, (.ireturn, 68)), (68, (.aload 0, 69)), (69, (.getfield 2307, 72)), (72, (.invokevirtual 50289, 75)), (75, (.ireturn, 76)), (76, (.aload 0, 77)), (77, (.iconst (-1000001), 79)), (79, (.invokevirtual 123026, 82)), (82, (.ireturn, 83))]
def zc_X_shuffle : List (Nat × (Instr × Nat)) := [(0, (.iload 1, 1)), (1, (.iconst 1, 2)), (2, (.iconst 12, 4)), (4, (.invokestatic 137219, 7)), (7, (.ifCond .ne 17, 10)), (10, (.aload 0, 11)), (11, (.iconst (-1000001), 13)), (13, (.invokevirtual 123026, 16)), (16, (.ireturn, 17)), (17, (.aload 0, 18)), (18, (.getfield 2307, 21)), (21, (.getfield 1800, 24)), (24, (.iload 1, 25)), (25, (.iadd, 26)), (26, (.iconst 14, 28)), (28, (.if_icmp .le 38, 31)), (31, (.aload 0, 32)), (32, (.iconst (-1000002), 34)), (34, (.invokevirtual 123026, 37)), (37, (.ireturn, 38)), (38, (.iconst 0, 39)), (39, (.istore 2, 40)), (40, (.iload 2, 41)), (41, (.iload 1, 42)), (42, (.if_icmp .ge 147, 45)), (45, (.aload 0, 46)), (46, (.getfield 2307, 49)), (49, (.iconst 7, 51)), (51, (.invokevirtual 51314, 54)), (54, (.istore 3, 55)), (55, (.aload 0, 56)), (56, (.getfield 2307, 59)), (59, (.aload 0, 60)), (60, (.getfield 2307, 63)), (63, (.getfield 1792, 66)), (66, (.invokevirtual 51314, 69)), (69, (.istore 4, 71)), (71, (.aload 0, 72)), (72, (.getfield 2307, 75)), (75, (.aload 0, 76)), (76, (.getfield 2307, 79)), (79, (.getfield 1792, 82)), (82, (.iconst 1, 83)), (83, (.isub, 84)), (84, (.invokevirtual 51314, 87)), (87, (.iconst 1, 88)), (88, (.iadd, 89)), (89, (.istore 5, 91)), (91, (.iload 4, 93)), (93, (.iload 5, 95)), (95, (.iadd, 96)), (96, (.aload 0, 97)), (97, (.getfield 2307, 100)), (100, (.getfield 1792, 103)), (103, (.if_icmp .ge 114, 106)), (106, (.iload 4, 108)), (108, (.iload 5, 110)), (110, (.iadd, 111)), (111, (.goto 127, 114)), (114, (.iload 4, 116)), (116, (.iload 5, 118)), (118, (.iadd, 119)), (119, (.aload 0, 120)), (120, (.getfield 2307, 123)), (123, (.getfield 1792, 126)), (126, (.isub, 127)), (127, (.istore 6, 129)), (129, (.aload 0, 130)), (130, (.getfield 2307, 133)), (133, (.iload 3, 134)), (134, (.iload 4, 136)), (136, (.iload 6, 138)), (138, (.invokevirtual 45172, 141)), (141, (.iinc 2 1, 144)), (144, (.goto 40, 147)), (147, (.aload 0, 148)), (148, (.getfield 2307, 151)), (151, (.aload 0, 152)), (152, (.getfield 2307, 155)), (155, (.getfield 1800, 158)), (158, (.invokevirtual 46194, 161)), (161, (.ireturn, 162))]
def zc_X_seed : List (Nat × (Instr × Nat)) := [(0, (.aload 0, 1)), (1, (.getfield 2307, 4)), (4, (.getfield 1808, 7)), (7, (.istore 2, 8)), (8, (.aload 0, 9)), (9, (.getfield 2307, 12)), (12, (.iload 1, 13)), (13, (.putfield 1808, 16)), (16, (.iload 2, 17)), (17, (.ireturn, 18))]
def zc_X_feed : List (Nat × (Instr × Nat)) := [(0, (.iload 2, 1)), (1, (.iconst 1, 2)), (2, (.iconst 4, 3)), (3, (.invokestatic 137219, 6)), (6, (.ifCond .ne 16, 9)), (9, (.aload 0, 10)), (10, (.iconst (-1000001), 12)), (12, (.invokevirtual 123026, 15)), (15, (.ireturn, 16)), (16, (.aload 0, 17)), (17, (.getfield 2339, 20)), (20, (.getfield 2052, 23)), (23, (.iload 2, 24)), (24, (.iadd, 25)), (25, (.iconst 120, 27)), (27, (.if_icmp .le 37, 30)), (30, (.aload 0, 31)), (31, (.iconst (-1000002), 33)), (33, (.invokevirtual 123026, 36)), (36, (.ireturn, 37)), (37, (.iload 2, 38)), (38, (.iconst 1, 39)), (39, (.isub, 40)), (40, (.istore 3, 41)), (41, (.iload 3, 42)), (42, (.ifCond .lt 64, 45)), (45, (.aload 0, 46)), (46, (.getfield 2339, 49)), (49, (.iload 1, 50)), (50, (.iconst 8, 52)), (52, (.iload 3, 53)), (53, (.imul, 54)), (54, (.iushr, 55)), (55, (.invokevirtual 56450, 58)), (58, (.iinc 3 (-1), 61)), (61, (.goto 41, 64)), (64, (.aload 0, 65)), (65, (.getfield 2339, 68)), (68, (.getfield 2052, 71)), (71, (.ireturn, 72))]
def zc_X_wipe : List (Nat × (Instr × Nat)) := [(0, (.aload 0, 1)), (1, (.getfield 2339, 4)), (4, (.getfield 2052, 7)), (7, (.istore 1, 8)), (8, (.aload 0, 9)), (9, (.getfield 2339, 12)), (12, (.iconst 0, 13)), (13, (.putfield 2052, 16)), (16, (.iload 1, 17)), (17, (.ireturn, 18))]
def zc_X_text : List (Nat × (Instr × Nat)) := [(0, (.aload 0, 1)), (1, (.getfield 2315, 4)), (4, (.aload 0, 5)), (5, (.getfield 2307, 8)), (8, (.invokevirtual 43122, 11)), (11, (.aload 0, 12)), (12, (.getfield 2339, 15)), (15, (.aload 0, 16)), (16, (.getfield 2315, 19)), (19, (.invokevirtual 57474, 22)), (22, (.istore 1, 23)), (23, (.aload 0, 24)), (24, (.getfield 2339, 27)), (27, (.iconst 0, 28)), (28, (.putfield 2052, 31)), (31, (.iload 1, 32)), (32, (.ifCond .lt 46, 35)), (35, (.aload 0, 36)), (36, (.getfield 2307, 39)), (39, (.aload 0, 40)), (40, (.getfield 2315, 43)), (43, (.invokevirtual 43122, 46)), (46, (.iload 1, 47)), (47, (.ireturn, 48))]
def zc_X_hold : List (Nat × (Instr × Nat)) := [(0, (.iload 1, 1)), (1, (.iconst 0, 2)), (2, (.iconst 9, 4)), (4, (.invokestatic 137219, 7)), (7, (.ifCond .eq 23, 10)), (10, (.iload 2, 11)), (11, (.iconst (-1), 12)), (12, (.if_icmp .eq 30, 15)), (15, (.aload 0, 16)), (16, (.iload 2, 17)), (17, (.invokevirtual 129170, 20)), (20, (.ifCond .ne 30, 23)), (23, (.aload 0, 24)), (24, (.iconst (-1000001), 26)), (26, (.invokevirtual 123026, 29)), (29, (.ireturn, 30)), (30, (.aload 0, 31)), (31, (.getfield 2307, 34)), (34, (.getfield 1827, 37)), (37, (.iload 1, 38)), (38, (.iload 2, 39)), (39, (.iastore, 40)), (40, (.iconst 1, 41)), (41, (.ireturn, 42))]
def zc_X_as : List (Nat × (Instr × Nat)) := [(0, (.iload 1, 1)), (1, (.iconst 0, 2)), (2, (.iconst 9, 4)), (4, (.invokestatic 137219, 7)), (7, (.ifCond .eq 17, 10)), (10, (.iload 2, 11)), (11, (.invokestatic 131073, 14)), (14, (.ifCond .ne 24, 17)), (17, (.aload 0, 18)), (18, (.iconst (-1000001), 20)), (20, (.invokevirtual 123026, 23)), (23, (.ireturn, 24)), (24, (.aload 0, 25)), (25, (.getfield 2307, 28)), (28, (.getfield 1827, 31)), (31, (.iload 1, 32)), (32, (.iaload, 33)), (33, (.istore 3, 34)), (34, (.aload 0, 35)), (35, (.iload 3, 36)), (36, (.invokevirtual 129170, 39)), (39, (.ifCond .ne 50, 42)), (42, (.aload 0, 43)), (43, (.iconst (-1000006), 46)), (46, (.invokevirtual 123026, 49)), (49, (.ireturn, 50)), (50, (.aload 0, 51)), (51, (.getfield 2307, 54)), (54, (.getfield 1815, 57)), (57, (.iload 3, 58)), (58, (.aaload, 59)), (59, (.getfield 512, 62)), (62, (.iload 2, 63)), (63, (.invokestatic 138242, 66)), (66, (.ifCond .eq 73, 69)), (69, (.iload 3, 70)), (70, (.goto 80, 73)), (73, (.aload 0, 74)), (74, (.iconst (-1000003), 77)), (77, (.invokevirtual 123026, 80)), (80, (.ireturn, 81))]
def zc_X_sheet : List (Nat × (Instr × Nat)) := [(0, (.iload 1, 1)), (1, (.invokestatic 135169, 4)), (4, (.ifCond .eq 14, 7)), (7, (.iload 2, 8)), (8, (.invokestatic 136193, 11)), (11, (.ifCond .ne 21, 14)), (14, (.aload 0, 15)), (15, (.iconst (-1000001), 17)), (17, (.invokevirtual 123026, 20)), (20, (.ireturn, 21)), (21, (.iload 3, 22)), (22, (.ifCond .ge 32, 25)), (25, (.aload 0, 26)), (26, (.iconst (-1000007), 28)), (28, (.invokevirtual 123026, 31)), (31, (.ireturn, 32)), (32, (.iload 3, 33)), (33, (.iconst 40, 35)), (35, (.if_icmp .le 45, 38)), (38, (.aload 0, 39)), (39, (.iconst (-1000001), 41)), (41, (.invokevirtual 123026, 44)), (44, (.ireturn, 45)), (45, (.aload 0, 46)), (46, (.getfield 2343, 49)), (49, (.iload 1, 50)), (50, (.aaload, 51)), (51, (.iload 2, 52)), (52, (.iload 2, 53)), (53, (.ifCond .ne 60, 56)), (56, (.iconst 0, 57)), (57, (.goto 61, 60)), (60, (.iload 3, 61)), (61, (.invokevirtual 31827, 64)), (64, (.aload 0, 65)), (65, (.getfield 2343, 68)), (68, (.iload 1, 69)), (69, (.aaload, 70)), (70, (.getfield 1284, 73)), (73, (.ireturn, 74))]
def zc_X_write : List (Nat × (Instr × Nat)) := [(0, (.iload 1, 1)), (1, (.invokestatic 135169, 4)), (4, (.ifCond .ne 14, 7)), (7, (.aload 0, 8)), (8, (.iconst (-1000001), 10)), (10, (.invokevirtual 123026, 13)), (13, (.ireturn, 14)), (14, (.aload 0, 15)), (15, (.getfield 2343, 18)), (18, (.iload 1, 19)), (19, (.aaload, 20)), (20, (.getfield 1280, 23)), (23, (.ifCond .ne 34, 26)), (26, (.aload 0, 27)), (27, (.iconst (-1000006), 30)), (30, (.invokevirtual 123026, 33)), (33, (.ireturn, 34)), (34, (.iload 2, 35)), (35, (.iconst 0, 36)), (36, (.aload 0, 37)), (37, (.getfield 2343, 40)), (40, (.iload 1, 41)), (41, (.aaload, 42)), (42, (.getfield 1284, 45)), (45, (.iconst 1, 46)), (46, (.isub, 47)), (47, (.invokestatic 137219, 50)), (50, (.ifCond .ne 60, 53)), (53, (.aload 0, 54)), (54, (.iconst (-1000001), 56)), (56, (.invokevirtual 123026, 59)), (59, (.ireturn, 60)), (60, (.aload 0, 61)), (61, (.getfield 2343, 64)), (64, (.iload 1, 65)), (65, (.aaload, 66)), (66, (.iload 2, 67)), (67, (.iload 3, 68)), (68, (.invokevirtual 32851, 71)), (71, (.iconst 1, 72)), (72, (.ireturn, 73))]
def zc_X_copy : List (Nat × (Instr × Nat)) := [(0, (.iload 1, 1)), (1, (.invokestatic 135169, 4)), (4, (.ifCond .eq 14, 7)), (7, (.iload 3, 8)), (8, (.invokestatic 135169, 11)), (11, (.ifCond .ne 21, 14)), (14, (.aload 0, 15)), (15, (.iconst (-1000001), 17)), (17, (.invokevirtual 123026, 20)), (20, (.ireturn, 21)), (21, (.aload 0, 22)), (22, (.getfield 2343, 25)), (25, (.iload 1, 26)), (26, (.aaload, 27)), (27, (.astore 6, 29)), (29, (.aload 0, 30)), (30, (.getfield 2343, 33)), (33, (.iload 3, 34)), (34, (.aaload, 35)), (35, (.astore 7, 37)), (37, (.aload 6, 39)), (39, (.getfield 1280, 42)), (42, (.ifCond .eq 53, 45)), (45, (.aload 7, 47)), (47, (.getfield 1280, 50)), (50, (.ifCond .ne 61, 53)), (53, (.aload 0, 54)), (54, (.iconst (-1000006), 57)), (57, (.invokevirtual 123026, 60)), (60, (.ireturn, 61)), (61, (.aload 6, 63)), (63, (.getfield 1280, 66)), (66, (.aload 7, 68)), (68, (.getfield 1280, 71)), (71, (.if_icmp .eq 82, 74)), (74, (.aload 0, 75)), (75, (.iconst (-1000003), 78)), (78, (.invokevirtual 123026, 81)), (81, (.ireturn, 82)), (82, (.aload 6, 84)), (84, (.iload 2, 85)), (85, (.iload 5, 87)), (87, (.invokevirtual 33875, 90)), (90, (.ifCond .eq 105, 93)), (93, (.aload 7, 95)), (95, (.iload 4, 97)), (97, (.iload 5, 99)), (99, (.invokevirtual 33875, 102)), (102, (.ifCond .ne 112, 105)), (105, (.aload 0, 106)), (106, (.iconst (-1000001), 108)), (108, (.invokevirtual 123026, 111)), (111, (.ireturn, 112)), (112, (.aload 6, 114)), (114, (.getfield 1291, 117)), (117, (.iload 2, 118)), (118, (.aload 7, 120)), (120, (.getfield 1291, 123)), (123, (.iload 4, 125)), (125, (.iload 5, 127)), (127, (.swap, 130)), (130, (.iload 5, 132)), (132, (.ireturn, 133))]
def zc_X_load : List (Nat × (Instr × Nat)) := [(0, (.iload 1, 1)), (1, (.invokestatic 135169, 4)), (4, (.ifCond .ne 14, 7)), (7, (.aload 0, 8)), (8, (.iconst (-1000001), 10)), (10, (.invokevirtual 123026, 13)), (13, (.ireturn, 14)), (14, (.aload 0, 15)), (15, (.getfield 2343, 18)), (18, (.iload 1, 19)), (19, (.aaload, 20)), (20, (.astore 2, 21)), (21, (.aload 2, 22)), (22, (.getfield 1280, 25)), (25, (.ifCond .ne 36, 28)), (28, (.aload 0, 29)), (29, (.iconst (-1000006), 32)), (32, (.invokevirtual 123026, 35)), (35, (.ireturn, 36)), (36, (.iconst 0, 37)), (37, (.istore 3, 38)), (38, (.iload 3, 39)), (39, (.aload 2, 40)), (40, (.getfield 1284, 43)), (43, (.if_icmp .ge 93, 46)), (46, (.iload 3, 47)), (47, (.aload 0, 48)), (48, (.getfield 2307, 51)), (51, (.getfield 1800, 54)), (54, (.if_icmp .ge 93, 57)), (57, (.aload 2, 58)), (58, (.getfield 1291, 61)), (61, (.iload 3, 62)), (62, (.iaload, 63)), (63, (.invokestatic 131073, 66)), (66, (.ifCond .eq 93, 69)), (69, (.aload 0, 70)), (70, (.getfield 2307, 73)), (73, (.getfield 1815, 76)), (76, (.iload 3, 77)), (77, (.aaload, 78)), (78, (.aload 2, 79)), (79, (.getfield 1291, 82)), (82, (.iload 3, 83)), (83, (.iaload, 84)), (84, (.putfield 512, 87)), (87, (.iinc 3 1, 90)), (90, (.goto 38, 93)), (93, (.iload 3, 94)), (94, (.ireturn, 95))]
def zc_X_judge : List (Nat × (Instr × Nat)) := [(0, (.iload 1, 1)), (1, (.invokestatic 135169, 4)), (4, (.ifCond .ne 14, 7)), (7, (.aload 0, 8)), (8, (.iconst (-1000001), 10)), (10, (.invokevirtual 123026, 13)), (13, (.ireturn, 14)), (14, (.aload 0, 15)), (15, (.getfield 2343, 18)), (18, (.iload 1, 19)), (19, (.aaload, 20)), (20, (.astore 2, 21)), (21, (.aload 2, 22)), (22, (.getfield 1280, 25)), (25, (.ifCond .ne 36, 28)), (28, (.aload 0, 29)), (29, (.iconst (-1000006), 32)), (32, (.invokevirtual 123026, 35)), (35, (.ireturn, 36)), (36, (.iconst 0, 37)), (37, (.istore 3, 38)), (38, (.iload 3, 39)), (39, (.aload 2, 40)), (40, (.getfield 1284, 43)), (43, (.if_icmp .ge 84, 46)), (46, (.iload 3, 47)), (47, (.aload 0, 48)), (48, (.getfield 2307, 51)), (51, (.getfield 1800, 54)), (54, (.if_icmp .gt 84, 57)), (57, (.aload 2, 58)), (58, (.getfield 1291, 61)), (61, (.iload 3, 62)), (62, (.iaload, 63)), (63, (.aload 0, 64)), (64, (.getfield 2307, 67)), (67, (.iload 3, 68)), (68, (.invokevirtual 46194, 71)), (71, (.if_icmp .eq 78, 74)), (74, (.iconst 1, 75)), (75, (.iload 3, 76)), (76, (.iadd, 77)), (77, (.ireturn, 78)), (78, (.iinc 3 1, 81)), (81, (.goto 38, 84)), (84, (.iconst 0, 85)), (85, (.ireturn, 86))]
def zc_X_image : List (Nat × (Instr × Nat)) := [(0, (.aload 0, 1)), (1, (.getfield 2311, 4)), (4, (.aload 0, 5)), (5, (.getfield 2307, 8)), (8, (.invokevirtual 43122, 11)), (11, (.aload 0, 12)), (12, (.iconst 1, 13)), (13, (.putfield 2318, 16)), (16, (.iconst 1, 17)), (17, (.ireturn, 18))]
def zc_X_undo : List (Nat × (Instr × Nat)) := [(0, (.aload 0, 1)), (1, (.getfield 2318, 4)), (4, (.ifCond .ne 14, 7)), (7, (.aload 0, 8)), (8, (.iconst (-1000004), 10)), (10, (.invokevirtual 123026, 13)), (13, (.ireturn, 14)), (14, (.aload 0, 15)), (15, (.getfield 2307, 18)), (18, (.aload 0, 19)), (19, (.getfield 2311, 22)), (22, (.invokevirtual 43122, 25)), (25, (.aload 0, 26)), (26, (.getfield 2307, 29)), (29, (.getfield 1800, 32)), (32, (.ireturn, 33))]
def zc_X_tear : List (Nat × (Instr × Nat)) := [(0, (.aload 0, 1)), (1, (.getfield 2318, 4)), (4, (.ifCond .eq 11, 7)), (7, (.iconst 1, 8)), (8, (.goto 12, 11)), (11, (.iconst 0, 12)), (12, (.istore 1, 13)), (13, (.aload 0, 14)), (14, (.iconst 0, 15)), (15, (.putfield 2318, 18)), (18, (.iload 1, 19)), (19, (.ireturn, 20))]
def zc_X_count : List (Nat × (Instr × Nat)) := [(0, (.iload 1, 1)), (1, (.tableswitch 114 (0) (7) #[48, 56, 64, 73, 82, 90, 98, 106], 48)), (48, (.aload 0, 49)), (49, (.getfield 2307, 52)), (52, (.getfield 1800, 55)), (55, (.ireturn, 56)), (56, (.aload 0, 57)), (57, (.getfield 2307, 60)), (60, (.getfield 1792, 63)), (63, (.ireturn, 64)), (64, (.aload 0, 65)), (65, (.getfield 2307, 68)), (68, (.iconst 0, 69)), (69, (.invokevirtual 52338, 72)), (72, (.ireturn, 73)), (73, (.aload 0, 74)), (74, (.getfield 2307, 77)), (77, (.iconst 1, 78)), (78, (.invokevirtual 52338, 81)), (81, (.ireturn, 82)), (82, (.aload 0, 83)), (83, (.getfield 2307, 86)), (86, (.invokevirtual 53361, 89)), (89, (.ireturn, 90)), (90, (.aload 0, 91)), (91, (.getfield 2339, 94)), (94, (.getfield 2052, 97)), (97, (.ireturn, 98)), (98, (.aload 0, 99)), (99, (.getfield 2307, 102)), (102, (.getfield 1808, 105)), (105, (.ireturn, 106)), (106, (.aload 0, 107)), (107, (.getfield 2307, 110)), (110, (.invokevirtual 54385, 113)), (113, (.ireturn, 114)), (114, (.aload 0, 115)), (115, (.iconst (-1000001), 117)), (117, (.invokevirtual 123026, 120)), (120, (.ireturn, 121))]
def zc_X_status : List (Nat × (Instr × Nat)) := [(0, (.iload 1, 1)), (1, (.iconst (-1), 2)), (2, (.iconst 6, 4)), (4, (.invokestatic 137219, 7)), (7, (.ifCond .ne 17, 10)), (10, (.aload 0, 11)), (11, (.iconst (-1000001), 13)), (13, (.invokevirtual 123026, 16)), (16, (.ireturn, 17)), (17, (.iload 1, 18)), (18, (.ifCond .lt 28, 21)), (21, (.aload 0, 22)), (22, (.getfield 2347, 25)), (25, (.iload 1, 26)), (26, (.iaload, 27)), (27, (.ireturn, 28)), (28, (.iconst 0, 29)), (29, (.istore 2, 30)), (30, (.iconst 0, 31)), (31, (.istore 3, 32)), (32, (.iload 3, 33)), (33, (.iconst 7, 35)), (35, (.if_icmp .ge 53, 38)), (38, (.iload 2, 39)), (39, (.aload 0, 40)), (40, (.getfield 2347, 43)), (43, (.iload 3, 44)), (44, (.iaload, 45)), (45, (.iadd, 46)), (46, (.istore 2, 47)), (47, (.iinc 3 1, 50)), (50, (.goto 32, 53)), (53, (.iload 2, 54)), (54, (.ireturn, 55))]
def zc_X_tell : List (Nat × (Instr × Nat)) := [(0, (.aload 0, 1)), (1, (.getfield 2347, 4)), (4, (.iconst (-1000001), 6)), (6, (.iload 1, 7)), (7, (.isub, 8)), (8, (.dup2, 9)), (9, (.iaload, 10)), (10, (.iconst 1, 11)), (11, (.iadd, 12)), (12, (.iastore, 13)), (13, (.iload 1, 14)), (14, (.ireturn, 15))]
def zc_X_likeliest : List (Nat × (Instr × Nat)) := [(0, (.aload 0, 1)), (1, (.getfield 2323, 4)), (4, (.aload 0, 5)), (5, (.getfield 2307, 8)), (8, (.iload 1, 9)), (9, (.iconst (-1), 10)), (10, (.invokevirtual 35940, 13)), (13, (.aload 0, 14)), (14, (.getfield 2323, 17)), (17, (.aload 0, 18)), (18, (.getfield 2307, 21)), (21, (.getfield 1800, 24)), (24, (.invokevirtual 40034, 27)), (27, (.ireturn, 28))]
def zc_X_rightOf : List (Nat × (Instr × Nat)) := [(0, (.aload 0, 1)), (1, (.getfield 2323, 4)), (4, (.aload 0, 5)), (5, (.getfield 2307, 8)), (8, (.iload 1, 9)), (9, (.iload 2, 10)), (10, (.invokevirtual 35940, 13)), (13, (.aload 0, 14)), (14, (.getfield 2323, 17)), (17, (.aload 0, 18)), (18, (.getfield 2307, 21)), (21, (.getfield 1800, 24)), (24, (.aload 0, 25)), (25, (.getfield 2307, 28)), (28, (.aload 0, 29)), (29, (.getfield 2307, 32)), (32, (.getfield 1800, 35)), (35, (.invokevirtual 46194, 38)), (38, (.invokevirtual 39011, 41)), (41, (.lreturn, 42))]
def zc_X_rightIf : List (Nat × (Instr × Nat)) := [(0, (.aload 0, 1)), (1, (.getfield 2307, 4)), (4, (.getfield 1815, 7)), (7, (.iload 2, 8)), (8, (.aaload, 9)), (9, (.getfield 512, 12)), (12, (.istore 4, 14)), (14, (.aload 0, 15)), (15, (.getfield 2307, 18)), (18, (.getfield 1815, 21)), (21, (.iload 2, 22)), (22, (.aaload, 23)), (23, (.iload 3, 24)), (24, (.putfield 512, 27)), (27, (.aload 0, 28)), (28, (.iload 1, 29)), (29, (.iconst (-1), 30)), (30, (.invokevirtual 125075, 33)), (33, (.lstore 5, 35)), (35, (.aload 0, 36)), (36, (.getfield 2307, 39)), (39, (.getfield 1815, 42)), (42, (.iload 2, 43)), (43, (.aaload, 44)), (44, (.iload 4, 46)), (46, (.putfield 512, 49)), (49, (.lload 5, 51)), (51, (.lreturn, 52))]
def zc_X_isPlace : List (Nat × (Instr × Nat)) := [(0, (.iload 1, 1)), (1, (.iconst 0, 2)), (2, (.aload 0, 3)), (3, (.getfield 2307, 6)), (6, (.getfield 1792, 9)), (9, (.iconst 1, 10)), (10, (.isub, 11)), (11, (.invokestatic 137219, 14)), (14, (.freturn, 15))]
def zc_X_isPlaceOrHand : List (Nat × (Instr × Nat)) := [(0, (.iload 1, 1)), (1, (.iconst (-1), 2)), (2, (.if_icmp .eq 13, 5)), (5, (.aload 0, 6)), (6, (.iload 1, 7)), (7, (.invokevirtual 127122, 10)), (10, (.ifCond .eq 17, 13)), (13, (.iconst 1, 14)), (14, (.goto 18, 17)), (17, (.iconst 0, 18)), (18, (.freturn, 19))]
def zc_X_isPass : List (Nat × (Instr × Nat)) := [(0, (.iload 1, 1)), (1, (.iconst 0, 2)), (2, (.aload 0, 3)), (3, (.getfield 2307, 6)), (6, (.getfield 1800, 9)), (9, (.iconst 1, 10)), (10, (.isub, 11)), (11, (.invokestatic 137219, 14)), (14, (.freturn, 15))]
def zc_X_isBehind : List (Nat × (Instr × Nat)) := [(0, (.iload 1, 1)), (1, (.iconst 0, 2)), (2, (.aload 0, 3)), (3, (.getfield 2307, 6)), (6, (.getfield 1800, 9)), (9, (.invokestatic 137219, 12)), (12, (.freturn, 13))]
def zc_X_isKind : List (Nat × (Instr × Nat)) := [(0, (.iload 0, 1)), (1, (.iconst 0, 2)), (2, (.iconst 6, 4)), (4, (.invokestatic 137219, 7)), (7, (.freturn, 8))]
def zc_X_isEye : List (Nat × (Instr × Nat)) := [(0, (.iload 0, 1)), (1, (.iconst 0, 2)), (2, (.iconst 3, 3)), (3, (.invokestatic 137219, 6)), (6, (.freturn, 7))]
def zc_X_isPlayer : List (Nat × (Instr × Nat)) := [(0, (.iload 0, 1)), (1, (.iconst 0, 2)), (2, (.iconst 3, 3)), (3, (.invokestatic 137219, 6)), (6, (.freturn, 7))]
def zc_X_isRounds : List (Nat × (Instr × Nat)) := [(0, (.iload 0, 1)), (1, (.iconst 1, 2)), (2, (.iconst 10, 4)), (4, (.invokestatic 137219, 7)), (7, (.freturn, 8))]
def zc_X_isSheet : List (Nat × (Instr × Nat)) := [(0, (.iload 0, 1)), (1, (.iconst 0, 2)), (2, (.iconst 3, 3)), (3, (.invokestatic 137219, 6)), (6, (.freturn, 7))]
def zc_X_isBits : List (Nat × (Instr × Nat)) := [(0, (.iload 0, 1)), (1, (.ifCond .eq 22, 4)), (4, (.iload 0, 5)), (5, (.iconst 8, 7)), (7, (.if_icmp .eq 22, 10)), (10, (.iload 0, 11)), (11, (.iconst 16, 13)), (13, (.if_icmp .eq 22, 16)), (16, (.iload 0, 17)), (17, (.iconst 32, 19)), (19, (.if_icmp .ne 26, 22)), (22, (.iconst 1, 23)), (23, (.goto 27, 26)), (26, (.iconst 0, 27)), (27, (.freturn, 28))]
def zc_X_within : List (Nat × (Instr × Nat)) := [(0, (.iload 0, 1)), (1, (.iload 1, 2)), (2, (.if_icmp .lt 14, 5)), (5, (.iload 0, 6)), (6, (.iload 2, 7)), (7, (.if_icmp .gt 14, 10)), (10, (.iconst 1, 11)), (11, (.goto 15, 14)), (14, (.iconst 0, 15)), (15, (.freturn, 16))]
def zc_X_isUnder : List (Nat × (Instr × Nat)) := [(0, (.iload 0, 1)), (1, (.istore 2, 2)), (2, (.iconst 0, 3)), (3, (.istore 3, 4)), (4, (.iload 3, 5)), (5, (.iconst 7, 7)), (7, (.if_icmp .ge 36, 10)), (10, (.iload 2, 11)), (11, (.invokestatic 131073, 14)), (14, (.ifCond .eq 36, 17)), (17, (.iload 2, 18)), (18, (.iload 1, 19)), (19, (.if_icmp .ne 24, 22)), (22, (.iconst 1, 23)), (23, (.freturn, 24)), (24, (.getstatic 1, 27)), (27, (.iload 2, 28)), (28, (.iaload, 29)), (29, (.istore 2, 30)), (30, (.iinc 3 1, 33)), (33, (.goto 4, 36)), (36, (.iconst 0, 37)), (37, (.freturn, 38))]
def zc_X_ringAt : List (Nat × (Instr × Nat)) := [(0, (.iconst 1, 1)), (1, (.istore 1, 2)), (2, (.iconst 0, 3)), (3, (.istore 2, 4)), (4, (.iload 2, 5)), (5, (.iload 0, 6)), (6, (.if_icmp .ge 20, 9)), (9, (.iload 1, 10)), (10, (.iconst 15, 12)), (12, (.imul, 13)), (13, (.istore 1, 14)), (14, (.iinc 2 1, 17)), (17, (.goto 4, 20)), (20, (.iload 1, 21)), (21, (.ireturn, 22))]
def zc_X_swapped : List (Nat × (Instr × Nat)) := [(0, (.iload 2, 1)), (1, (.iload 0, 2)), (2, (.if_icmp .ne 9, 5)), (5, (.iload 1, 6)), (6, (.goto 19, 9)), (9, (.iload 2, 10)), (10, (.iload 1, 11)), (11, (.if_icmp .ne 18, 14)), (14, (.iload 0, 15)), (15, (.goto 19, 18)), (18, (.iload 2, 19)), (19, (.ireturn, 20))]
def zc_X_next : List (Nat × (Instr × Nat)) := [(0, (.iload 0, 1)), (1, (.iconst 1, 2)), (2, (.iadd, 3)), (3, (.iload 1, 4)), (4, (.if_icmp .ge 13, 7)), (7, (.iload 0, 8)), (8, (.iconst 1, 9)), (9, (.iadd, 10)), (10, (.goto 14, 13)), (13, (.iconst 0, 14)), (14, (.ireturn, 15))]
def zc_M_init : List (Nat × (Instr × Nat)) := [(0, (.aload 0, 1)), (1, (.nop, 4)), (4, (.aload 0, 5)), (5, (.iconst 96, 7)), (7, (.newarray .int, 9)), (9, (.putfield 2563, 12)), (12, (.aload 0, 13)), (13, (.iconst 96, 15)), (15, (.newarray .int, 17)), (17, (.putfield 2567, 20)), (20, (.aload 0, 21)), (21, (.iconst 96, 23)), (23, (.newarray .int, 25)), (25, (.putfield 2571, 28)), (28, (.aload 0, 29)), (29, (.iconst 7, 31)), (31, (.newarray .int, 33)), (33, (.putfield 2579, 36)), (36, (.aload 0, 37)), (37, (.iconst 120, 39)), (39, (.newarray .byte, 41)), (41, (.putfield 2583, 44)), (44, (.aload 0, 45)), (45, (.iconst 6, 47)), (47, (.newarray .long, 49)), (49, (.putfield 2591, 52)), (52, (.aload 0, 53)), (53, (.iconst 6, 55)), (55, (.newarray .long, 57)), (57, (.putfield 2595, 60)), (60, (.aload 0, 61)), (61, (.iconst 6, 63)), (63, (.newarray .long, 65)), (65, (.putfield 2599, 68)), (68, (.aload 0, 69)), (69, (.iconst 15, 71)), (71, (.newarray .int, 73)), (73, (.putfield 2603, 76)), (76, (.aload 0, 77)), (77, (.iconst 15, 79)), (79, (.newarray .int, 81)), (81, (.putfield 2607, 84)), (84, (.aload 0, 85)), (85, (.iconst 896, 88)), (88, (.newarray .int, 90)), (90, (.putfield 2639, 93)), (93, (.aload 0, 94)), (94, (.iconst 4, 95)), (95, (.newarray .int, 97)), (97, (.putfield 2671, 100)), (100, (.aload 0, 101)), (101, (.iconst 4, 102)), (102, (.newarray .int, 104)), (104, (.putfield 2675, 107)), (107, (.aload 0, 108)), (108, (.iconst 160, 111)), (111, (.newarray .int, 113)), (113, (.putfield 2679, 116)), (116, (.aload 0, 117)), (117, (.iconst 40, 119)), (119, (.newarray .int, 121)), (121, (.putfield 2683, 124)), (124, (.aload 0, 125)), (125, (.getfield 2563, 128)), (128, (.iconst 0, 129)), (129, (.iconst 3, 130)), (130, (.iastore, 131)), (131, (.aload 0, 132)), (132, (.getfield 2563, 135)), (135, (.iconst 3, 136)), (136, (.iconst 1, 137)), (137, (.iastore, 138)), (138, (.iconst 0, 139)), (139, (.istore 1, 140)), (140, (.iload 1, 141)), (141, (.iconst 4, 142)), (142, (.if_icmp .ge 206, 145)), (145, (.aload 0, 146)), (146, (.getfield 2563, 149)), (149, (.iconst 47, 151)), (151, (.iconst 2, 152)), (152, (.iload 1, 153)), (153, (.imul, 154)), (154, (.iadd, 155)), (155, (.iconst 2, 156)), (156, (.iastore, 157)), (157, (.aload 0, 158)), (158, (.getfield 2563, 161)), (161, (.iconst 55, 163)), (163, (.iconst 4, 164)), (164, (.iload 1, 165)), (165, (.imul, 166)), (166, (.iadd, 167)), (167, (.iconst 0, 168)), (168, (.iadd, 169)), (169, (.iconst 50, 171)), (171, (.iastore, 172)), (172, (.aload 0, 173)), (173, (.getfield 2563, 176)), (176, (.iconst 55, 178)), (178, (.iconst 4, 179)), (179, (.iload 1, 180)), (180, (.imul, 181)), (181, (.iadd, 182)), (182, (.iconst 1, 183)), (183, (.iadd, 184)), (184, (.iconst 4, 185)), (185, (.iastore, 186)), (186, (.aload 0, 187)), (187, (.getfield 2563, 190)), (190, (.iconst 55, 192)), (192, (.iconst 4, 193)), (193, (.iload 1, 194)), (194, (.imul, 195)), (195, (.iadd, 196)), (196, (.iconst 2, 197)), (197, (.iadd, 198)), (198, (.iconst 2, 199)), (199, (.iastore, 200)), (200, (.iinc 1 1, 203)), (203, (.goto 140, 206)), (206, (.return_, 207))]
def zc_M_finds : List (Nat × (Instr × Nat)) := [(0, (.aload 0, 1)), (1, (.getfield 2579, 4)), (4, (.iload 1, 5)), (5, (.dup2, 6)), (6, (.iaload, 7)), (7, (.iconst 1, 8)), (8, (.iadd, 9)), (9, (.iastore, 10)), (10, (.iconst (-1000001), 12)), (12, (.iload 1, 13)), (13, (.isub, 14)), (14, (.ireturn, 15))]
def zc_M_in : List (Nat × (Instr × Nat)) := [(0, (.lload 0, 1)), (1, (.lload 2, 2)), (2, (.lcmp, 3)), (3, (.ifCond .lt 17, 6)), (6, (.lload 0, 7)), (7, (.lload 4, 9)), (9, (.lcmp, 10)), (10, (.ifCond .gt 17, 13)), (13, (.iconst 1, 14)), (14, (.goto 18, 17)), (17, (.iconst 0, 18)), (18, (.freturn, 19))]
def zc_M_copies : List (Nat × (Instr × Nat)) := [(0, (.iconst 0, 1)), (1, (.istore 2, 2)), (2, (.iload 2, 3)), (3, (.iconst 81, 5)), (5, (.if_icmp .ge 20, 8)), (8, (.aload 1, 9)), (9, (.iload 2, 10)), (10, (.aload 0, 11)), (11, (.iload 2, 12)), (12, (.iaload, 13)), (13, (.iastore, 14)), (14, (.iinc 2 1, 17)), (17, (.goto 2, 20)), (20, (.return_, 21))]
def zc_M_isPlace : List (Nat × (Instr × Nat)) := [(0, (.iload 1, 1)), (1, (.i2l, 2)), (2, (.sipush 0, 3)), (3, (.aload 0, 4)), (4, (.getfield 2563, 7)), (7, (.iconst 0, 8)), (8, (.iaload, 9)), (9, (.iconst 1, 10)), (10, (.isub, 11)), (11, (.i2l, 12)), (12, (.invokestatic 144387, 15)), (15, (.freturn, 16))]
def zc_M_isPass : List (Nat × (Instr × Nat)) := [(0, (.iload 1, 1)), (1, (.i2l, 2)), (2, (.sipush 0, 3)), (3, (.aload 0, 4)), (4, (.getfield 2563, 7)), (7, (.iconst 1, 8)), (8, (.iaload, 9)), (9, (.iconst 1, 10)), (10, (.isub, 11)), (11, (.i2l, 12)), (12, (.invokestatic 144387, 15)), (15, (.freturn, 16))]
def zc_M_isFour : List (Nat × (Instr × Nat)) := [(0, (.iload 0, 1)), (1, (.i2l, 2)), (2, (.sipush 0, 3)), (3, (.sipush (3), 6)), (6, (.invokestatic 144387, 9)), (9, (.freturn, 10))]
def zc_M_its : List (Nat × (Instr × Nat)) := [(0, (.aload 0, 1)), (1, (.getfield 2563, 4)), (4, (.iconst 5, 5)), (5, (.iconst 3, 6)), (6, (.iload 1, 7)), (7, (.imul, 8)), (8, (.iadd, 9)), (9, (.iload 2, 10)), (10, (.iadd, 11)), (11, (.iaload, 12)), (12, (.ireturn, 13))]
def zc_M_third : List (Nat × (Instr × Nat)) := [(0, (.iconst 0, 1)), (1, (.istore 2, 2)), (2, (.iload 2, 3)), (3, (.iload 0, 4)), (4, (.if_icmp .eq 12, 7)), (7, (.iload 2, 8)), (8, (.iload 1, 9)), (9, (.if_icmp .ne 18, 12)), (12, (.iinc 2 1, 15)), (15, (.goto 2, 18)), (18, (.iload 2, 19)), (19, (.ireturn, 20))]
def zc_M_swapped : List (Nat × (Instr × Nat)) := [(0, (.iload 0, 1)), (1, (.iload 1, 2)), (2, (.if_icmp .ne 9, 5)), (5, (.iload 2, 6)), (6, (.goto 19, 9)), (9, (.iload 0, 10)), (10, (.iload 2, 11)), (11, (.if_icmp .ne 18, 14)), (14, (.iload 1, 15)), (15, (.goto 19, 18)), (18, (.iload 0, 19)), (19, (.ireturn, 20))]
def zc_M_cupBy : List (Nat × (Instr × Nat)) := [(0, (.iload 0, 1)), (1, (.iconst 1, 2)), (2, (.if_icmp .ne 7, 5)), (5, (.iload 3, 6)), (6, (.ireturn, 7)), (7, (.iload 0, 8)), (8, (.iconst 4, 9)), (9, (.if_icmp .ne 50, 12)), (12, (.iload 1, 13)), (13, (.iload 2, 14)), (14, (.invokestatic 150530, 17)), (17, (.istore 4, 19)), (19, (.iload 3, 20)), (20, (.iload 1, 21)), (21, (.if_icmp .ne 28, 24)), (24, (.iload 2, 25)), (25, (.goto 49, 28)), (28, (.iload 3, 29)), (29, (.iload 2, 30)), (30, (.if_icmp .ne 38, 33)), (33, (.iload 4, 35)), (35, (.goto 49, 38)), (38, (.iload 3, 39)), (39, (.iload 4, 41)), (41, (.if_icmp .ne 48, 44)), (44, (.iload 1, 45)), (45, (.goto 49, 48)), (48, (.iload 3, 49)), (49, (.ireturn, 50)), (50, (.iload 3, 51)), (51, (.iload 1, 52)), (52, (.iload 2, 53)), (53, (.invokestatic 151555, 56)), (56, (.ireturn, 57))]
def zc_M_peaBy : List (Nat × (Instr × Nat)) := [(0, (.iload 0, 1)), (1, (.iconst 2, 2)), (2, (.if_icmp .ne 14, 5)), (5, (.iload 3, 6)), (6, (.iload 1, 7)), (7, (.if_icmp .ne 14, 10)), (10, (.iconst (-1), 11)), (11, (.goto 15, 14)), (14, (.iload 3, 15)), (15, (.istore 4, 17)), (17, (.iload 4, 19)), (19, (.iconst (-1), 20)), (20, (.if_icmp .ne 27, 23)), (23, (.iconst (-1), 24)), (24, (.goto 35, 27)), (27, (.iload 0, 28)), (28, (.iload 1, 29)), (29, (.iload 2, 30)), (30, (.iload 4, 32)), (32, (.invokestatic 152580, 35)), (35, (.istore 4, 37)), (37, (.iload 0, 38)), (38, (.iconst 3, 39)), (39, (.if_icmp .ne 52, 42)), (42, (.iload 4, 44)), (44, (.iconst (-1), 45)), (45, (.if_icmp .ne 52, 48)), (48, (.iload 2, 49)), (49, (.goto 54, 52)), (52, (.iload 4, 54)), (54, (.ireturn, 55))]
def zc_M_seen : List (Nat × (Instr × Nat)) := [(0, (.aload 0, 1)), (1, (.iload 1, 2)), (2, (.iconst 0, 3)), (3, (.invokevirtual 149667, 6)), (6, (.iconst 4, 7)), (7, (.if_icmp .ne 28, 10)), (10, (.aload 0, 11)), (11, (.iload 1, 12)), (12, (.iconst 1, 13)), (13, (.invokevirtual 149667, 16)), (16, (.aload 0, 17)), (17, (.iload 1, 18)), (18, (.iconst 2, 19)), (19, (.invokevirtual 149667, 22)), (22, (.invokestatic 150530, 25)), (25, (.goto 34, 28)), (28, (.aload 0, 29)), (29, (.iload 1, 30)), (30, (.iconst 2, 31)), (31, (.invokevirtual 149667, 34)), (34, (.ireturn, 35))]
def zc_M_cups : List (Nat × (Instr × Nat)) := [(0, (.iload 1, 1)), (1, (.i2l, 2)), (2, (.sipush (3), 5)), (5, (.sipush (6), 8)), (8, (.invokestatic 144387, 11)), (11, (.ifCond .ne 20, 14)), (14, (.aload 0, 15)), (15, (.iconst 0, 16)), (16, (.invokevirtual 143522, 19)), (19, (.ireturn, 20)), (20, (.aload 0, 21)), (21, (.getfield 2563, 24)), (24, (.iconst 1, 25)), (25, (.iaload, 26)), (26, (.ifCond .le 35, 29)), (29, (.aload 0, 30)), (30, (.iconst 4, 31)), (31, (.invokevirtual 143522, 34)), (34, (.ireturn, 35)), (35, (.aload 0, 36)), (36, (.getfield 2563, 39)), (39, (.iconst 0, 40)), (40, (.iaload, 41)), (41, (.istore 2, 42)), (42, (.aload 0, 43)), (43, (.getfield 2563, 46)), (46, (.iconst 0, 47)), (47, (.iload 1, 48)), (48, (.iastore, 49)), (49, (.aload 0, 50)), (50, (.getfield 2563, 53)), (53, (.iconst 2, 54)), (54, (.aload 0, 55)), (55, (.getfield 2563, 58)), (58, (.iconst 2, 59)), (59, (.iaload, 60)), (60, (.iload 1, 61)), (61, (.if_icmp .lt 68, 64)), (64, (.iconst 0, 65)), (65, (.goto 74, 68)), (68, (.aload 0, 69)), (69, (.getfield 2563, 72)), (72, (.iconst 2, 73)), (73, (.iaload, 74)), (74, (.iastore, 75)), (75, (.iconst 0, 76)), (76, (.istore 3, 77)), (77, (.iload 3, 78)), (78, (.iconst 4, 79)), (79, (.if_icmp .ge 135, 82)), (82, (.aload 0, 83)), (83, (.getfield 2563, 86)), (86, (.iconst 47, 88)), (88, (.iconst 2, 89)), (89, (.iload 3, 90)), (90, (.imul, 91)), (91, (.iadd, 92)), (92, (.iconst 1, 93)), (93, (.iadd, 94)), (94, (.aload 0, 95)), (95, (.getfield 2563, 98)), (98, (.iconst 47, 100)), (100, (.iconst 2, 101)), (101, (.iload 3, 102)), (102, (.imul, 103)), (103, (.iadd, 104)), (104, (.iconst 1, 105)), (105, (.iadd, 106)), (106, (.iaload, 107)), (107, (.iload 1, 108)), (108, (.if_icmp .lt 115, 111)), (111, (.iconst 0, 112)), (112, (.goto 128, 115)), (115, (.aload 0, 116)), (116, (.getfield 2563, 119)), (119, (.iconst 47, 121)), (121, (.iconst 2, 122)), (122, (.iload 3, 123)), (123, (.imul, 124)), (124, (.iadd, 125)), (125, (.iconst 1, 126)), (126, (.iadd, 127)), (127, (.iaload, 128)), (128, (.iastore, 129)), (129, (.iinc 3 1, 132)), (132, (.goto 77, 135)), (135, (.iload 2, 136)), (136, (.ireturn, 137))]
def zc_M_pea : List (Nat × (Instr × Nat)) := [(0, (.iload 1, 1)), (1, (.i2l, 2)), (2, (.sipush (-1), 5)), (5, (.aload 0, 6)), (6, (.getfield 2563, 9)), (9, (.iconst 0, 10)), (10, (.iaload, 11)), (11, (.iconst 1, 12)), (12, (.isub, 13)), (13, (.i2l, 14)), (14, (.invokestatic 144387, 17)), (17, (.ifCond .ne 26, 20)), (20, (.aload 0, 21)), (21, (.iconst 0, 22)), (22, (.invokevirtual 143522, 25)), (25, (.ireturn, 26)), (26, (.aload 0, 27)), (27, (.getfield 2563, 30)), (30, (.iconst 2, 31)), (31, (.iaload, 32)), (32, (.istore 2, 33)), (33, (.aload 0, 34)), (34, (.getfield 2563, 37)), (37, (.iconst 2, 38)), (38, (.iload 1, 39)), (39, (.iastore, 40)), (40, (.iload 2, 41)), (41, (.ireturn, 42))]
def zc_M_comes : List (Nat × (Instr × Nat)) := [(0, (.aload 0, 1)), (1, (.getfield 2563, 4)), (4, (.iconst 1, 5)), (5, (.iaload, 6)), (6, (.istore 4, 8)), (8, (.aload 0, 9)), (9, (.getfield 2563, 12)), (12, (.iconst 5, 13)), (13, (.iconst 3, 14)), (14, (.iload 4, 16)), (16, (.imul, 17)), (17, (.iadd, 18)), (18, (.iload 1, 19)), (19, (.iastore, 20)), (20, (.aload 0, 21)), (21, (.getfield 2563, 24)), (24, (.iconst 5, 25)), (25, (.iconst 3, 26)), (26, (.iload 4, 28)), (28, (.imul, 29)), (29, (.iadd, 30)), (30, (.iconst 1, 31)), (31, (.iadd, 32)), (32, (.iload 2, 33)), (33, (.iastore, 34)), (34, (.aload 0, 35)), (35, (.getfield 2563, 38)), (38, (.iconst 5, 39)), (39, (.iconst 3, 40)), (40, (.iload 4, 42)), (42, (.imul, 43)), (43, (.iadd, 44)), (44, (.iconst 2, 45)), (45, (.iadd, 46)), (46, (.iload 3, 47)), (47, (.iastore, 48)), (48, (.aload 0, 49)), (49, (.getfield 2563, 52)), (52, (.iconst 1, 53)), (53, (.dup2, 54)), (54, (.iaload, 55)), (55, (.iconst 1, 56)), (56, (.iadd, 57)), (57, (.iastore, 58)), (58, (.iload 4, 60)), (60, (.ireturn, 61))]
def zc_M_pass : List (Nat × (Instr × Nat)) := [(0, (.iload 1, 1)), (1, (.i2l, 2)), (2, (.sipush 0, 3)), (3, (.sipush (6), 6)), (6, (.invokestatic 144387, 9)), (9, (.ifCond .eq 33, 12)), (12, (.aload 0, 13)), (13, (.iload 2, 14)), (14, (.invokevirtual 146594, 17)), (17, (.ifCond .eq 33, 20)), (20, (.aload 0, 21)), (21, (.iload 3, 22)), (22, (.invokevirtual 146594, 25)), (25, (.ifCond .eq 33, 28)), (28, (.iload 2, 29)), (29, (.iload 3, 30)), (30, (.if_icmp .ne 39, 33)), (33, (.aload 0, 34)), (34, (.iconst 0, 35)), (35, (.invokevirtual 143522, 38)), (38, (.ireturn, 39)), (39, (.aload 0, 40)), (40, (.getfield 2563, 43)), (43, (.iconst 1, 44)), (44, (.iaload, 45)), (45, (.iconst 14, 47)), (47, (.if_icmp .ne 58, 50)), (50, (.aload 0, 51)), (51, (.iconst 1, 52)), (52, (.invokevirtual 143522, 55)), (55, (.goto 65, 58)), (58, (.aload 0, 59)), (59, (.iload 1, 60)), (60, (.iload 2, 61)), (61, (.iload 3, 62)), (62, (.invokevirtual 157860, 65)), (65, (.ireturn, 66))]
def zc_M_of : List (Nat × (Instr × Nat)) := [(0, (.aload 0, 1)), (1, (.iload 1, 2)), (2, (.invokevirtual 147618, 5)), (5, (.ifCond .eq 20, 8)), (8, (.iload 2, 9)), (9, (.i2l, 10)), (10, (.sipush 0, 11)), (11, (.sipush (3), 14)), (14, (.invokestatic 144387, 17)), (17, (.ifCond .ne 26, 20)), (20, (.aload 0, 21)), (21, (.iconst 0, 22)), (22, (.invokevirtual 143522, 25)), (25, (.ireturn, 26)), (26, (.iload 2, 27)), (27, (.iconst 3, 28)), (28, (.if_icmp .ge 40, 31)), (31, (.aload 0, 32)), (32, (.iload 1, 33)), (33, (.iload 2, 34)), (34, (.invokevirtual 149667, 37)), (37, (.goto 45, 40)), (40, (.aload 0, 41)), (41, (.iload 1, 42)), (42, (.invokevirtual 154786, 45)), (45, (.ireturn, 46))]
def zc_M_change : List (Nat × (Instr × Nat)) := [(0, (.aload 0, 1)), (1, (.iload 1, 2)), (2, (.invokevirtual 147618, 5)), (5, (.ifCond .eq 20, 8)), (8, (.iload 2, 9)), (9, (.i2l, 10)), (10, (.sipush 0, 11)), (11, (.sipush (6), 14)), (14, (.invokestatic 144387, 17)), (17, (.ifCond .ne 26, 20)), (20, (.aload 0, 21)), (21, (.iconst 0, 22)), (22, (.invokevirtual 143522, 25)), (25, (.ireturn, 26)), (26, (.aload 0, 27)), (27, (.iload 1, 28)), (28, (.iconst 0, 29)), (29, (.invokevirtual 149667, 32)), (32, (.istore 3, 33)), (33, (.aload 0, 34)), (34, (.getfield 2563, 37)), (37, (.iconst 5, 38)), (38, (.iconst 3, 39)), (39, (.iload 1, 40)), (40, (.imul, 41)), (41, (.iadd, 42)), (42, (.iload 2, 43)), (43, (.iastore, 44)), (44, (.iload 3, 45)), (45, (.ireturn, 46))]
def zc_M_back : List (Nat × (Instr × Nat)) := [(0, (.aload 0, 1)), (1, (.getfield 2563, 4)), (4, (.iconst 1, 5)), (5, (.iaload, 6)), (6, (.ifCond .ne 15, 9)), (9, (.aload 0, 10)), (10, (.iconst 3, 11)), (11, (.invokevirtual 143522, 14)), (14, (.ireturn, 15)), (15, (.aload 0, 16)), (16, (.getfield 2563, 19)), (19, (.iconst 1, 20)), (20, (.dup2, 21)), (21, (.iaload, 22)), (22, (.iconst 1, 23)), (23, (.isub, 24)), (24, (.iastore, 25)), (25, (.aload 0, 26)), (26, (.getfield 2563, 29)), (29, (.iconst 1, 30)), (30, (.iaload, 31)), (31, (.ireturn, 32))]
def zc_M_peaBehind : List (Nat × (Instr × Nat)) := [(0, (.aload 0, 1)), (1, (.getfield 2563, 4)), (4, (.iconst 2, 5)), (5, (.iaload, 6)), (6, (.istore 2, 7)), (7, (.iconst 0, 8)), (8, (.istore 3, 9)), (9, (.iload 3, 10)), (10, (.iload 1, 11)), (11, (.if_icmp .ge 43, 14)), (14, (.aload 0, 15)), (15, (.iload 3, 16)), (16, (.iconst 0, 17)), (17, (.invokevirtual 149667, 20)), (20, (.aload 0, 21)), (21, (.iload 3, 22)), (22, (.iconst 1, 23)), (23, (.invokevirtual 149667, 26)), (26, (.aload 0, 27)), (27, (.iload 3, 28)), (28, (.iconst 2, 29)), (29, (.invokevirtual 149667, 32)), (32, (.iload 2, 33)), (33, (.invokestatic 153604, 36)), (36, (.istore 2, 37)), (37, (.iinc 3 1, 40)), (40, (.goto 9, 43)), (43, (.iload 2, 44)), (44, (.ireturn, 45))]
def zc_M_where : List (Nat × (Instr × Nat)) := [(0, (.iload 1, 1)), (1, (.i2l, 2)), (2, (.sipush 0, 3)), (3, (.aload 0, 4)), (4, (.getfield 2563, 7)), (7, (.iconst 1, 8)), (8, (.iaload, 9)), (9, (.i2l, 10)), (10, (.invokestatic 144387, 13)), (13, (.ifCond .eq 24, 16)), (16, (.aload 0, 17)), (17, (.iload 1, 18)), (18, (.invokevirtual 162978, 21)), (21, (.goto 29, 24)), (24, (.aload 0, 25)), (25, (.iconst 0, 26)), (26, (.invokevirtual 143522, 29)), (29, (.ireturn, 30))]
def zc_M_goes : List (Nat × (Instr × Nat)) := [(0, (.aload 0, 1)), (1, (.iload 1, 2)), (2, (.invokevirtual 146594, 5)), (5, (.ifCond .eq 24, 8)), (8, (.iload 2, 9)), (9, (.i2l, 10)), (10, (.sipush 0, 11)), (11, (.aload 0, 12)), (12, (.getfield 2563, 15)), (15, (.iconst 1, 16)), (16, (.iaload, 17)), (17, (.i2l, 18)), (18, (.invokestatic 144387, 21)), (21, (.ifCond .ne 30, 24)), (24, (.aload 0, 25)), (25, (.iconst 0, 26)), (26, (.invokevirtual 143522, 29)), (29, (.ireturn, 30)), (30, (.iload 1, 31)), (31, (.istore 3, 32)), (32, (.iconst 0, 33)), (33, (.istore 4, 35)), (35, (.iload 4, 37)), (37, (.iload 2, 38)), (38, (.if_icmp .ge 73, 41)), (41, (.aload 0, 42)), (42, (.iload 4, 44)), (44, (.iconst 0, 45)), (45, (.invokevirtual 149667, 48)), (48, (.aload 0, 49)), (49, (.iload 4, 51)), (51, (.iconst 1, 52)), (52, (.invokevirtual 149667, 55)), (55, (.aload 0, 56)), (56, (.iload 4, 58)), (58, (.iconst 2, 59)), (59, (.invokevirtual 149667, 62)), (62, (.iload 3, 63)), (63, (.invokestatic 152580, 66)), (66, (.istore 3, 67)), (67, (.iinc 4 1, 70)), (70, (.goto 35, 73)), (73, (.iload 3, 74)), (74, (.ireturn, 75))]
def zc_M_moves : List (Nat × (Instr × Nat)) := [(0, (.iconst 0, 1)), (1, (.istore 1, 2)), (2, (.aload 0, 3)), (3, (.getfield 2563, 6)), (6, (.iconst 2, 7)), (7, (.iaload, 8)), (8, (.istore 2, 9)), (9, (.iconst 0, 10)), (10, (.istore 3, 11)), (11, (.iload 3, 12)), (12, (.aload 0, 13)), (13, (.getfield 2563, 16)), (16, (.iconst 1, 17)), (17, (.iaload, 18)), (18, (.if_icmp .ge 70, 21)), (21, (.aload 0, 22)), (22, (.iload 3, 23)), (23, (.iconst 0, 24)), (24, (.invokevirtual 149667, 27)), (27, (.aload 0, 28)), (28, (.iload 3, 29)), (29, (.iconst 1, 30)), (30, (.invokevirtual 149667, 33)), (33, (.aload 0, 34)), (34, (.iload 3, 35)), (35, (.iconst 2, 36)), (36, (.invokevirtual 149667, 39)), (39, (.iload 2, 40)), (40, (.invokestatic 153604, 43)), (43, (.istore 4, 45)), (45, (.iload 1, 46)), (46, (.iload 4, 48)), (48, (.iload 2, 49)), (49, (.if_icmp .eq 58, 52)), (52, (.iconst 1, 53)), (53, (.iload 3, 54)), (54, (.ishl, 55)), (55, (.goto 59, 58)), (58, (.iconst 0, 59)), (59, (.ior, 60)), (60, (.istore 1, 61)), (61, (.iload 4, 63)), (63, (.istore 2, 64)), (64, (.iinc 3 1, 67)), (67, (.goto 11, 70)), (70, (.iload 1, 71)), (71, (.ireturn, 72))]
def zc_M_slips : List (Nat × (Instr × Nat)) := [(0, (.aload 0, 1)), (1, (.getfield 2563, 4)), (4, (.iconst 47, 6)), (6, (.iconst 2, 7)), (7, (.iload 1, 8)), (8, (.imul, 9)), (9, (.iadd, 10)), (10, (.iaload, 11)), (11, (.istore 3, 12)), (12, (.iload 2, 13)), (13, (.iconst 5, 14)), (14, (.if_icmp .ne 21, 17)), (17, (.iconst 0, 18)), (18, (.goto 47, 21)), (21, (.iload 2, 22)), (22, (.iconst 6, 24)), (24, (.if_icmp .ne 46, 27)), (27, (.iconst 2, 28)), (28, (.iload 3, 29)), (29, (.imul, 30)), (30, (.iconst 10, 32)), (32, (.if_icmp .le 40, 35)), (35, (.iconst 10, 37)), (37, (.goto 47, 40)), (40, (.iconst 2, 41)), (41, (.iload 3, 42)), (42, (.imul, 43)), (43, (.goto 47, 46)), (46, (.iload 3, 47)), (47, (.ireturn, 48))]
def zc_M_beginsBy : List (Nat × (Instr × Nat)) := [(0, (.iconst 0, 1)), (1, (.istore 2, 2)), (2, (.iload 2, 3)), (3, (.iconst 6, 5)), (5, (.if_icmp .ge 42, 8)), (8, (.aload 0, 9)), (9, (.getfield 2591, 12)), (12, (.iload 2, 13)), (13, (.iload 2, 14)), (14, (.aload 0, 15)), (15, (.getfield 2563, 18)), (18, (.iconst 47, 20)), (20, (.iconst 2, 21)), (21, (.iload 1, 22)), (22, (.imul, 23)), (23, (.iadd, 24)), (24, (.iconst 1, 25)), (25, (.iadd, 26)), (26, (.iaload, 27)), (27, (.if_icmp .ne 34, 30)), (30, (.sipush 1, 31)), (31, (.goto 35, 34)), (34, (.sipush 0, 35)), (35, (.lastore, 36)), (36, (.iinc 2 1, 39)), (39, (.goto 2, 42)), (42, (.return_, 43))]
def zc_M_looksAt : List (Nat × (Instr × Nat)) := [(0, (.iload 2, 1)), (1, (.iconst 1, 2)), (2, (.iadd, 3)), (3, (.aload 0, 4)), (4, (.getfield 2563, 7)), (7, (.iconst 0, 8)), (8, (.iaload, 9)), (9, (.irem, 10)), (10, (.istore 4, 12)), (12, (.iload 4, 14)), (14, (.iload 1, 15)), (15, (.if_icmp .ne 32, 18)), (18, (.iload 4, 20)), (20, (.iconst 1, 21)), (21, (.iadd, 22)), (22, (.aload 0, 23)), (23, (.getfield 2563, 26)), (26, (.iconst 0, 27)), (27, (.iaload, 28)), (28, (.irem, 29)), (29, (.goto 34, 32)), (32, (.iload 4, 34)), (34, (.istore 4, 36)), (36, (.iconst 0, 37)), (37, (.istore 5, 39)), (39, (.iload 5, 41)), (41, (.aload 0, 42)), (42, (.getfield 2563, 45)), (45, (.iconst 0, 46)), (46, (.iaload, 47)), (47, (.if_icmp .ge 98, 50)), (50, (.aload 0, 51)), (51, (.getfield 2595, 54)), (54, (.iload 5, 56)), (56, (.iconst 10, 58)), (58, (.iload 3, 59)), (59, (.isub, 60)), (60, (.i2l, 61)), (61, (.aload 0, 62)), (62, (.getfield 2591, 65)), (65, (.iload 5, 67)), (67, (.iload 1, 68)), (68, (.iload 2, 69)), (69, (.invokestatic 151555, 72)), (72, (.laload, 73)), (73, (.lmul, 74)), (74, (.iload 3, 75)), (75, (.i2l, 76)), (76, (.aload 0, 77)), (77, (.getfield 2591, 80)), (80, (.iload 5, 82)), (82, (.iload 1, 83)), (83, (.iload 4, 85)), (85, (.invokestatic 151555, 88)), (88, (.laload, 89)), (89, (.lmul, 90)), (90, (.ladd, 91)), (91, (.lastore, 92)), (92, (.iinc 5 1, 95)), (95, (.goto 39, 98)), (98, (.iconst 0, 99)), (99, (.istore 5, 101)), (101, (.iload 5, 103)), (103, (.aload 0, 104)), (104, (.getfield 2563, 107)), (107, (.iconst 0, 108)), (108, (.iaload, 109)), (109, (.if_icmp .ge 132, 112)), (112, (.aload 0, 113)), (113, (.getfield 2591, 116)), (116, (.iload 5, 118)), (118, (.aload 0, 119)), (119, (.getfield 2595, 122)), (122, (.iload 5, 124)), (124, (.laload, 125)), (125, (.lastore, 126)), (126, (.iinc 5 1, 129)), (129, (.goto 101, 132)), (132, (.return_, 133))]
def zc_M_watches : List (Nat × (Instr × Nat)) := [(0, (.aload 0, 1)), (1, (.iload 1, 2)), (2, (.invokevirtual 168098, 5)), (5, (.iconst 0, 6)), (6, (.istore 4, 8)), (8, (.iload 4, 10)), (10, (.iload 2, 11)), (11, (.if_icmp .ge 59, 14)), (14, (.aload 0, 15)), (15, (.aload 0, 16)), (16, (.iload 4, 18)), (18, (.iconst 1, 19)), (19, (.invokevirtual 149667, 22)), (22, (.aload 0, 23)), (23, (.iload 4, 25)), (25, (.invokevirtual 154786, 28)), (28, (.iload 4, 30)), (30, (.iload 3, 31)), (31, (.if_icmp .ne 38, 34)), (34, (.iconst 0, 35)), (35, (.goto 50, 38)), (38, (.aload 0, 39)), (39, (.iload 1, 40)), (40, (.aload 0, 41)), (41, (.iload 4, 43)), (43, (.iconst 0, 44)), (44, (.invokevirtual 149667, 47)), (47, (.invokevirtual 167075, 50)), (50, (.invokevirtual 169124, 53)), (53, (.iinc 4 1, 56)), (56, (.goto 8, 59)), (59, (.return_, 60))]
def zc_M_heaviest : List (Nat × (Instr × Nat)) := [(0, (.iconst 0, 1)), (1, (.istore 1, 2)), (2, (.iconst 1, 3)), (3, (.istore 2, 4)), (4, (.iload 2, 5)), (5, (.aload 0, 6)), (6, (.getfield 2563, 9)), (9, (.iconst 0, 10)), (10, (.iaload, 11)), (11, (.if_icmp .ge 42, 14)), (14, (.aload 0, 15)), (15, (.getfield 2591, 18)), (18, (.iload 2, 19)), (19, (.laload, 20)), (20, (.aload 0, 21)), (21, (.getfield 2591, 24)), (24, (.iload 1, 25)), (25, (.laload, 26)), (26, (.lcmp, 27)), (27, (.ifCond .le 34, 30)), (30, (.iload 2, 31)), (31, (.goto 35, 34)), (34, (.iload 1, 35)), (35, (.istore 1, 36)), (36, (.iinc 2 1, 39)), (39, (.goto 4, 42)), (42, (.iload 1, 43)), (43, (.ireturn, 44))]
def zc_M_eye : List (Nat × (Instr × Nat)) := [(0, (.iload 1, 1)), (1, (.invokestatic 148481, 4)), (4, (.ifCond .eq 45, 7)), (7, (.iload 2, 8)), (8, (.i2l, 9)), (9, (.sipush 0, 10)), (10, (.sipush 1, 11)), (11, (.invokestatic 144387, 14)), (14, (.ifCond .eq 45, 17)), (17, (.iload 3, 18)), (18, (.i2l, 19)), (19, (.sipush 0, 20)), (20, (.iload 2, 21)), (21, (.ifCond .ne 30, 24)), (24, (.sipush (10), 27)), (27, (.goto 39, 30)), (30, (.aload 0, 31)), (31, (.getfield 2563, 34)), (34, (.iconst 0, 35)), (35, (.iaload, 36)), (36, (.iconst 1, 37)), (37, (.isub, 38)), (38, (.i2l, 39)), (39, (.invokestatic 144387, 42)), (42, (.ifCond .ne 51, 45)), (45, (.aload 0, 46)), (46, (.iconst 0, 47)), (47, (.invokevirtual 143522, 50)), (50, (.ireturn, 51)), (51, (.aload 0, 52)), (52, (.getfield 2563, 55)), (55, (.iconst 47, 57)), (57, (.iconst 2, 58)), (58, (.iload 1, 59)), (59, (.imul, 60)), (60, (.iadd, 61)), (61, (.iload 2, 62)), (62, (.iadd, 63)), (63, (.iaload, 64)), (64, (.istore 4, 66)), (66, (.aload 0, 67)), (67, (.getfield 2563, 70)), (70, (.iconst 47, 72)), (72, (.iconst 2, 73)), (73, (.iload 1, 74)), (74, (.imul, 75)), (75, (.iadd, 76)), (76, (.iload 2, 77)), (77, (.iadd, 78)), (78, (.iload 3, 79)), (79, (.iastore, 80)), (80, (.iload 4, 82)), (82, (.ireturn, 83))]
def zc_M_weight : List (Nat × (Instr × Nat)) := [(0, (.iload 1, 1)), (1, (.invokestatic 148481, 4)), (4, (.ifCond .eq 31, 7)), (7, (.iload 2, 8)), (8, (.i2l, 9)), (9, (.sipush 0, 10)), (10, (.aload 0, 11)), (11, (.getfield 2563, 14)), (14, (.iconst 1, 15)), (15, (.iaload, 16)), (16, (.i2l, 17)), (17, (.invokestatic 144387, 20)), (20, (.ifCond .eq 31, 23)), (23, (.aload 0, 24)), (24, (.iload 3, 25)), (25, (.invokevirtual 146594, 28)), (28, (.ifCond .ne 38, 31)), (31, (.aload 0, 32)), (32, (.iconst 0, 33)), (33, (.invokevirtual 143522, 36)), (36, (.i2l, 37)), (37, (.lreturn, 38)), (38, (.aload 0, 39)), (39, (.iload 1, 40)), (40, (.iload 2, 41)), (41, (.iconst (-1), 42)), (42, (.invokevirtual 170148, 45)), (45, (.aload 0, 46)), (46, (.getfield 2591, 49)), (49, (.iload 3, 50)), (50, (.laload, 51)), (51, (.lreturn, 52))]
def zc_M_guessBehind : List (Nat × (Instr × Nat)) := [(0, (.aload 0, 1)), (1, (.iload 1, 2)), (2, (.iload 2, 3)), (3, (.iconst (-1), 4)), (4, (.invokevirtual 170148, 7)), (7, (.aload 0, 8)), (8, (.invokevirtual 171169, 11)), (11, (.ireturn, 12))]
def zc_M_guess : List (Nat × (Instr × Nat)) := [(0, (.iload 1, 1)), (1, (.invokestatic 148481, 4)), (4, (.ifCond .eq 21, 7)), (7, (.aload 0, 8)), (8, (.iload 1, 9)), (9, (.aload 0, 10)), (10, (.getfield 2563, 13)), (13, (.iconst 1, 14)), (14, (.iaload, 15)), (15, (.invokevirtual 174243, 18)), (18, (.goto 26, 21)), (21, (.aload 0, 22)), (22, (.iconst 0, 23)), (23, (.invokevirtual 143522, 26)), (26, (.ireturn, 27))]
def zc_M_rightNow : List (Nat × (Instr × Nat)) := [(0, (.iload 1, 1)), (1, (.iconst (-1), 2)), (2, (.if_icmp .ne 9, 5)), (5, (.sipush 0, 6)), (6, (.goto 15, 9)), (9, (.aload 0, 10)), (10, (.getfield 2591, 13)), (13, (.iload 1, 14)), (14, (.laload, 15)), (15, (.lreturn, 16))]
def zc_M_rightOf : List (Nat × (Instr × Nat)) := [(0, (.aload 0, 1)), (1, (.iload 1, 2)), (2, (.aload 0, 3)), (3, (.getfield 2563, 6)), (6, (.iconst 1, 7)), (7, (.iaload, 8)), (8, (.iload 2, 9)), (9, (.invokevirtual 170148, 12)), (12, (.aload 0, 13)), (13, (.aload 0, 14)), (14, (.aload 0, 15)), (15, (.getfield 2563, 18)), (18, (.iconst 1, 19)), (19, (.iaload, 20)), (20, (.invokevirtual 162978, 23)), (23, (.invokevirtual 176290, 26)), (26, (.lreturn, 27))]
def zc_M_right : List (Nat × (Instr × Nat)) := [(0, (.iload 1, 1)), (1, (.invokestatic 148481, 4)), (4, (.ifCond .eq 16, 7)), (7, (.aload 0, 8)), (8, (.iload 1, 9)), (9, (.iconst (-1), 10)), (10, (.invokevirtual 177315, 13)), (13, (.goto 22, 16)), (16, (.aload 0, 17)), (17, (.iconst 0, 18)), (18, (.invokevirtual 143522, 21)), (21, (.i2l, 22)), (22, (.lreturn, 23))]
def zc_M_lost : List (Nat × (Instr × Nat)) := [(0, (.iload 1, 1)), (1, (.invokestatic 148481, 4)), (4, (.ifCond .ne 13, 7)), (7, (.aload 0, 8)), (8, (.iconst 0, 9)), (9, (.invokevirtual 143522, 12)), (12, (.ireturn, 13)), (13, (.iconst 0, 14)), (14, (.istore 2, 15)), (15, (.iload 2, 16)), (16, (.aload 0, 17)), (17, (.getfield 2563, 20)), (20, (.iconst 1, 21)), (21, (.iaload, 22)), (22, (.if_icmp .gt 47, 25)), (25, (.aload 0, 26)), (26, (.iload 1, 27)), (27, (.iload 2, 28)), (28, (.invokevirtual 174243, 31)), (31, (.aload 0, 32)), (32, (.iload 2, 33)), (33, (.invokevirtual 162978, 36)), (36, (.if_icmp .eq 41, 39)), (39, (.iload 2, 40)), (40, (.ireturn, 41)), (41, (.iinc 2 1, 44)), (44, (.goto 15, 47)), (47, (.aload 0, 48)), (48, (.iconst 3, 49)), (49, (.invokevirtual 143522, 52)), (52, (.ireturn, 53))]
def zc_M_both : List (Nat × (Instr × Nat)) := [(0, (.iload 1, 1)), (1, (.invokestatic 148481, 4)), (4, (.ifCond .eq 19, 7)), (7, (.iload 2, 8)), (8, (.invokestatic 148481, 11)), (11, (.ifCond .eq 19, 14)), (14, (.iload 1, 15)), (15, (.iload 2, 16)), (16, (.if_icmp .ne 25, 19)), (19, (.aload 0, 20)), (20, (.iconst 0, 21)), (21, (.invokevirtual 143522, 24)), (24, (.ireturn, 25)), (25, (.aload 0, 26)), (26, (.getfield 2563, 29)), (29, (.iconst 1, 30)), (30, (.iaload, 31)), (31, (.iconst 9, 33)), (33, (.if_icmp .le 43, 36)), (36, (.aload 0, 37)), (37, (.iconst 6, 39)), (39, (.invokevirtual 143522, 42)), (42, (.ireturn, 43)), (43, (.aload 0, 44)), (44, (.iload 1, 45)), (45, (.aload 0, 46)), (46, (.getfield 2563, 49)), (49, (.iconst 1, 50)), (50, (.iaload, 51)), (51, (.iconst (-1), 52)), (52, (.invokevirtual 170148, 55)), (55, (.iconst 0, 56)), (56, (.istore 3, 57)), (57, (.iload 3, 58)), (58, (.iconst 6, 60)), (60, (.if_icmp .ge 81, 63)), (63, (.aload 0, 64)), (64, (.getfield 2599, 67)), (67, (.iload 3, 68)), (68, (.aload 0, 69)), (69, (.getfield 2591, 72)), (72, (.iload 3, 73)), (73, (.laload, 74)), (74, (.lastore, 75)), (75, (.iinc 3 1, 78)), (78, (.goto 57, 81)), (81, (.aload 0, 82)), (82, (.iload 2, 83)), (83, (.aload 0, 84)), (84, (.getfield 2563, 87)), (87, (.iconst 1, 88)), (88, (.iaload, 89)), (89, (.iconst (-1), 90)), (90, (.invokevirtual 170148, 93)), (93, (.iconst 0, 94)), (94, (.istore 3, 95)), (95, (.iload 3, 96)), (96, (.iconst 6, 98)), (98, (.if_icmp .ge 122, 101)), (101, (.aload 0, 102)), (102, (.getfield 2591, 105)), (105, (.iload 3, 106)), (106, (.dup2, 107)), (107, (.laload, 108)), (108, (.aload 0, 109)), (109, (.getfield 2599, 112)), (112, (.iload 3, 113)), (113, (.laload, 114)), (114, (.lmul, 115)), (115, (.lastore, 116)), (116, (.iinc 3 1, 119)), (119, (.goto 95, 122)), (122, (.aload 0, 123)), (123, (.invokevirtual 171169, 126)), (126, (.istore 3, 127)), (127, (.aload 0, 128)), (128, (.getfield 2591, 131)), (131, (.iload 3, 132)), (132, (.laload, 133)), (133, (.sipush 0, 134)), (134, (.lcmp, 135)), (135, (.ifCond .ne 146, 138)), (138, (.aload 0, 139)), (139, (.iconst 3, 140)), (140, (.invokevirtual 143522, 143)), (143, (.goto 147, 146)), (146, (.iload 3, 147)), (147, (.ireturn, 148))]
def zc_M_may : List (Nat × (Instr × Nat)) := [(0, (.iload 1, 1)), (1, (.invokestatic 148481, 4)), (4, (.ifCond .ne 13, 7)), (7, (.aload 0, 8)), (8, (.iconst 0, 9)), (9, (.invokevirtual 143522, 12)), (12, (.ireturn, 13)), (13, (.aload 0, 14)), (14, (.iload 1, 15)), (15, (.aload 0, 16)), (16, (.getfield 2563, 19)), (19, (.iconst 1, 20)), (20, (.iaload, 21)), (21, (.iconst (-1), 22)), (22, (.invokevirtual 170148, 25)), (25, (.iconst 0, 26)), (26, (.istore 2, 27)), (27, (.iconst 0, 28)), (28, (.istore 3, 29)), (29, (.iload 3, 30)), (30, (.aload 0, 31)), (31, (.getfield 2563, 34)), (34, (.iconst 0, 35)), (35, (.iaload, 36)), (36, (.if_icmp .ge 66, 39)), (39, (.iload 2, 40)), (40, (.aload 0, 41)), (41, (.getfield 2591, 44)), (44, (.iload 3, 45)), (45, (.laload, 46)), (46, (.sipush 0, 47)), (47, (.lcmp, 48)), (48, (.ifCond .le 57, 51)), (51, (.iconst 1, 52)), (52, (.iload 3, 53)), (53, (.ishl, 54)), (54, (.goto 58, 57)), (57, (.iconst 0, 58)), (58, (.ior, 59)), (59, (.istore 2, 60)), (60, (.iinc 3 1, 63)), (63, (.goto 29, 66)), (66, (.iload 2, 67)), (67, (.ireturn, 68))]
def zc_M_watch : List (Nat × (Instr × Nat)) := [(0, (.iload 1, 1)), (1, (.invokestatic 148481, 4)), (4, (.ifCond .ne 13, 7)), (7, (.aload 0, 8)), (8, (.iconst 0, 9)), (9, (.invokevirtual 143522, 12)), (12, (.ireturn, 13)), (13, (.iconst (-1), 14)), (14, (.istore 2, 15)), (15, (.sipush 0, 16)), (16, (.lstore 3, 17)), (17, (.iconst 0, 18)), (18, (.istore 5, 20)), (20, (.iload 5, 22)), (22, (.aload 0, 23)), (23, (.getfield 2563, 26)), (26, (.iconst 1, 27)), (27, (.iaload, 28)), (28, (.if_icmp .ge 63, 31)), (31, (.aload 0, 32)), (32, (.iload 1, 33)), (33, (.iload 5, 35)), (35, (.invokevirtual 177315, 38)), (38, (.lstore 6, 40)), (40, (.iload 2, 41)), (41, (.ifCond .lt 51, 44)), (44, (.lload 6, 46)), (46, (.lload 3, 47)), (47, (.lcmp, 48)), (48, (.ifCond .le 57, 51)), (51, (.iload 5, 53)), (53, (.istore 2, 54)), (54, (.lload 6, 56)), (56, (.lstore 3, 57)), (57, (.iinc 5 1, 60)), (60, (.goto 20, 63)), (63, (.iload 2, 64)), (64, (.ifCond .ge 75, 67)), (67, (.aload 0, 68)), (68, (.iconst 3, 69)), (69, (.invokevirtual 143522, 72)), (72, (.goto 76, 75)), (75, (.iload 2, 76)), (76, (.ireturn, 77))]
def zc_M_rightAs : List (Nat × (Instr × Nat)) := [(0, (.aload 0, 1)), (1, (.iload 2, 2)), (2, (.iconst 0, 3)), (3, (.invokevirtual 149667, 6)), (6, (.istore 4, 8)), (8, (.aload 0, 9)), (9, (.getfield 2563, 12)), (12, (.iconst 5, 13)), (13, (.iconst 3, 14)), (14, (.iload 2, 15)), (15, (.imul, 16)), (16, (.iadd, 17)), (17, (.iload 3, 18)), (18, (.iastore, 19)), (19, (.aload 0, 20)), (20, (.iload 1, 21)), (21, (.iconst (-1), 22)), (22, (.invokevirtual 177315, 25)), (25, (.lstore 5, 27)), (27, (.aload 0, 28)), (28, (.getfield 2563, 31)), (31, (.iconst 5, 32)), (32, (.iconst 3, 33)), (33, (.iload 2, 34)), (34, (.imul, 35)), (35, (.iadd, 36)), (36, (.iload 4, 38)), (38, (.iastore, 39)), (39, (.lload 5, 41)), (41, (.lreturn, 42))]
def zc_M_feint : List (Nat × (Instr × Nat)) := [(0, (.iload 1, 1)), (1, (.invokestatic 148481, 4)), (4, (.ifCond .ne 13, 7)), (7, (.aload 0, 8)), (8, (.iconst 0, 9)), (9, (.invokevirtual 143522, 12)), (12, (.ireturn, 13)), (13, (.iconst (-1), 14)), (14, (.istore 2, 15)), (15, (.sipush 0, 16)), (16, (.lstore 3, 17)), (17, (.iconst 0, 18)), (18, (.istore 5, 20)), (20, (.iload 5, 22)), (22, (.aload 0, 23)), (23, (.getfield 2563, 26)), (26, (.iconst 1, 27)), (27, (.iaload, 28)), (28, (.if_icmp .ge 64, 31)), (31, (.aload 0, 32)), (32, (.iload 1, 33)), (33, (.iload 5, 35)), (35, (.iconst 1, 36)), (36, (.invokevirtual 183460, 39)), (39, (.lstore 6, 41)), (41, (.iload 2, 42)), (42, (.ifCond .lt 52, 45)), (45, (.lload 6, 47)), (47, (.lload 3, 48)), (48, (.lcmp, 49)), (49, (.ifCond .ge 58, 52)), (52, (.iload 5, 54)), (54, (.istore 2, 55)), (55, (.lload 6, 57)), (57, (.lstore 3, 58)), (58, (.iinc 5 1, 61)), (61, (.goto 20, 64)), (64, (.iload 2, 65)), (65, (.ifCond .ge 76, 68)), (68, (.aload 0, 69)), (69, (.iconst 3, 70)), (70, (.invokevirtual 143522, 73)), (73, (.goto 77, 76)), (76, (.iload 2, 77)), (77, (.ireturn, 78))]
def zc_M_kindFor : List (Nat × (Instr × Nat)) := [(0, (.iload 1, 1)), (1, (.invokestatic 148481, 4)), (4, (.ifCond .eq 15, 7)), (7, (.aload 0, 8)), (8, (.iload 2, 9)), (9, (.invokevirtual 147618, 12)), (12, (.ifCond .ne 21, 15)), (15, (.aload 0, 16)), (16, (.iconst 0, 17)), (17, (.invokevirtual 143522, 20)), (20, (.ireturn, 21)), (21, (.iconst 0, 22)), (22, (.istore 3, 23)), (23, (.aload 0, 24)), (24, (.iload 1, 25)), (25, (.iload 2, 26)), (26, (.iconst 0, 27)), (27, (.invokevirtual 183460, 30)), (30, (.lstore 4, 32)), (32, (.iconst 1, 33)), (33, (.istore 6, 35)), (35, (.iload 6, 37)), (37, (.iconst 7, 39)), (39, (.if_icmp .ge 73, 42)), (42, (.aload 0, 43)), (43, (.iload 1, 44)), (44, (.iload 2, 45)), (45, (.iload 6, 47)), (47, (.invokevirtual 183460, 50)), (50, (.lstore 7, 52)), (52, (.lload 7, 54)), (54, (.lload 4, 56)), (56, (.lcmp, 57)), (57, (.ifCond .ge 67, 60)), (60, (.iload 6, 62)), (62, (.istore 3, 63)), (63, (.lload 7, 65)), (65, (.lstore 4, 67)), (67, (.iinc 6 1, 70)), (70, (.goto 35, 73)), (73, (.iload 3, 74)), (74, (.ireturn, 75))]
def zc_M_layPairs : List (Nat × (Instr × Nat)) := [(0, (.aload 0, 1)), (1, (.iconst 0, 2)), (2, (.putfield 2608, 5)), (5, (.iconst 0, 6)), (6, (.istore 1, 7)), (7, (.iload 1, 8)), (8, (.aload 0, 9)), (9, (.getfield 2563, 12)), (12, (.iconst 0, 13)), (13, (.iaload, 14)), (14, (.if_icmp .ge 73, 17)), (17, (.iload 1, 18)), (18, (.iconst 1, 19)), (19, (.iadd, 20)), (20, (.istore 2, 21)), (21, (.iload 2, 22)), (22, (.aload 0, 23)), (23, (.getfield 2563, 26)), (26, (.iconst 0, 27)), (27, (.iaload, 28)), (28, (.if_icmp .ge 67, 31)), (31, (.aload 0, 32)), (32, (.getfield 2603, 35)), (35, (.aload 0, 36)), (36, (.getfield 2608, 39)), (39, (.iload 1, 40)), (40, (.iastore, 41)), (41, (.aload 0, 42)), (42, (.getfield 2607, 45)), (45, (.aload 0, 46)), (46, (.getfield 2608, 49)), (49, (.iload 2, 50)), (50, (.iastore, 51)), (51, (.aload 0, 52)), (52, (.dup, 53)), (53, (.getfield 2608, 56)), (56, (.iconst 1, 57)), (57, (.iadd, 58)), (58, (.putfield 2608, 61)), (61, (.iinc 2 1, 64)), (64, (.goto 21, 67)), (67, (.iinc 1 1, 70)), (70, (.goto 7, 73)), (73, (.return_, 74))]
def zc_M_pairOf : List (Nat × (Instr × Nat)) := [(0, (.iload 1, 1)), (1, (.istore 4, 3)), (3, (.iload 2, 4)), (4, (.iconst 1, 5)), (5, (.isub, 6)), (6, (.istore 5, 8)), (8, (.iload 5, 10)), (10, (.iload 3, 11)), (11, (.if_icmp .le 29, 14)), (14, (.iload 4, 16)), (16, (.aload 0, 17)), (17, (.getfield 2608, 20)), (20, (.idiv, 21)), (21, (.istore 4, 23)), (23, (.iinc 5 (-1), 26)), (26, (.goto 8, 29)), (29, (.iload 4, 31)), (31, (.aload 0, 32)), (32, (.getfield 2608, 35)), (35, (.irem, 36)), (36, (.ireturn, 37))]
def zc_M_findMisled : List (Nat × (Instr × Nat)) := [(0, (.aload 0, 1)), (1, (.invokevirtual 186529, 4)), (4, (.aload 0, 5)), (5, (.iload 1, 6)), (6, (.aload 0, 7)), (7, (.getfield 2563, 10)), (10, (.iconst 1, 11)), (11, (.iaload, 12)), (12, (.iconst (-1), 13)), (13, (.invokevirtual 170148, 16)), (16, (.iconst 0, 17)), (17, (.istore 4, 19)), (19, (.iload 4, 21)), (21, (.iconst 6, 23)), (23, (.if_icmp .ge 46, 26)), (26, (.aload 0, 27)), (27, (.getfield 2599, 30)), (30, (.iload 4, 32)), (32, (.aload 0, 33)), (33, (.getfield 2591, 36)), (36, (.iload 4, 38)), (38, (.laload, 39)), (39, (.lastore, 40)), (40, (.iinc 4 1, 43)), (43, (.goto 19, 46)), (46, (.aload 0, 47)), (47, (.aload 0, 48)), (48, (.getfield 2563, 51)), (51, (.iconst 1, 52)), (52, (.iaload, 53)), (53, (.invokevirtual 162978, 56)), (56, (.istore 4, 58)), (58, (.aload 0, 59)), (59, (.iload 1, 60)), (60, (.iload 3, 61)), (61, (.invokevirtual 167075, 64)), (64, (.istore 5, 66)), (66, (.iconst 1, 67)), (67, (.istore 6, 69)), (69, (.iconst 0, 70)), (70, (.istore 7, 72)), (72, (.iload 7, 74)), (74, (.iload 2, 75)), (75, (.if_icmp .ge 93, 78)), (78, (.iload 6, 80)), (80, (.aload 0, 81)), (81, (.getfield 2608, 84)), (84, (.imul, 85)), (85, (.istore 6, 87)), (87, (.iinc 7 1, 90)), (90, (.goto 72, 93)), (93, (.aload 0, 94)), (94, (.iconst (-1), 95)), (95, (.putfield 2616, 98)), (98, (.iconst 0, 99)), (99, (.istore 7, 101)), (101, (.iload 7, 103)), (103, (.iload 6, 105)), (105, (.if_icmp .ge 266, 108)), (108, (.iconst 0, 109)), (109, (.istore 8, 111)), (111, (.iload 8, 113)), (113, (.iconst 6, 115)), (115, (.if_icmp .ge 138, 118)), (118, (.aload 0, 119)), (119, (.getfield 2591, 122)), (122, (.iload 8, 124)), (124, (.aload 0, 125)), (125, (.getfield 2599, 128)), (128, (.iload 8, 130)), (130, (.laload, 131)), (131, (.lastore, 132)), (132, (.iinc 8 1, 135)), (135, (.goto 111, 138)), (138, (.iload 4, 140)), (140, (.istore 8, 142)), (142, (.iconst 0, 143)), (143, (.istore 9, 145)), (145, (.iload 9, 147)), (147, (.iload 2, 148)), (148, (.if_icmp .ge 223, 151)), (151, (.aload 0, 152)), (152, (.iload 7, 154)), (154, (.iload 2, 155)), (155, (.iload 9, 157)), (157, (.invokevirtual 187556, 160)), (160, (.istore 10, 162)), (162, (.aload 0, 163)), (163, (.getfield 2603, 166)), (166, (.iload 10, 168)), (168, (.iaload, 169)), (169, (.istore 11, 171)), (171, (.aload 0, 172)), (172, (.getfield 2607, 175)), (175, (.iload 10, 177)), (177, (.iaload, 178)), (178, (.istore 12, 180)), (180, (.aload 0, 181)), (181, (.iload 11, 183)), (183, (.iload 3, 184)), (184, (.iconst 4, 185)), (185, (.if_icmp .ne 198, 188)), (188, (.iload 11, 190)), (190, (.iload 12, 192)), (192, (.invokestatic 150530, 195)), (195, (.goto 200, 198)), (198, (.iload 12, 200)), (200, (.iload 5, 202)), (202, (.invokevirtual 169124, 205)), (205, (.iload 3, 206)), (206, (.iload 11, 208)), (208, (.iload 12, 210)), (210, (.iload 8, 212)), (212, (.invokestatic 153604, 215)), (215, (.istore 8, 217)), (217, (.iinc 9 1, 220)), (220, (.goto 145, 223)), (223, (.aload 0, 224)), (224, (.iload 8, 226)), (226, (.invokevirtual 176290, 229)), (229, (.lstore 9, 231)), (231, (.aload 0, 232)), (232, (.getfield 2616, 235)), (235, (.ifCond .lt 248, 238)), (238, (.lload 9, 240)), (240, (.aload 0, 241)), (241, (.getfield 2613, 244)), (244, (.lcmp, 245)), (245, (.ifCond .ge 260, 248)), (248, (.aload 0, 249)), (249, (.lload 9, 251)), (251, (.putfield 2613, 254)), (254, (.aload 0, 255)), (255, (.iload 7, 257)), (257, (.putfield 2616, 260)), (260, (.iinc 7 1, 263)), (263, (.goto 101, 266)), (266, (.return_, 267))]
def zc_M_whyMisled : List (Nat × (Instr × Nat)) := [(0, (.iload 1, 1)), (1, (.invokestatic 148481, 4)), (4, (.ifCond .eq 31, 7)), (7, (.iload 2, 8)), (8, (.i2l, 9)), (9, (.sipush 1, 10)), (10, (.sipush (4), 13)), (13, (.invokestatic 144387, 16)), (16, (.ifCond .eq 31, 19)), (19, (.iload 3, 20)), (20, (.i2l, 21)), (21, (.sipush 0, 22)), (22, (.sipush (6), 25)), (25, (.invokestatic 144387, 28)), (28, (.ifCond .ne 35, 31)), (31, (.iconst 0, 32)), (32, (.goto 53, 35)), (35, (.aload 0, 36)), (36, (.getfield 2563, 39)), (39, (.iconst 1, 40)), (40, (.iaload, 41)), (41, (.iload 2, 42)), (42, (.iadd, 43)), (43, (.iconst 14, 45)), (45, (.if_icmp .le 52, 48)), (48, (.iconst 1, 49)), (49, (.goto 53, 52)), (52, (.iconst (-1), 53)), (53, (.ireturn, 54))]
def zc_M_misled : List (Nat × (Instr × Nat)) := [(0, (.aload 0, 1)), (1, (.iload 1, 2)), (2, (.iload 2, 3)), (3, (.iload 3, 4)), (4, (.invokevirtual 189604, 7)), (7, (.istore 4, 9)), (9, (.iload 4, 11)), (11, (.ifCond .lt 22, 14)), (14, (.aload 0, 15)), (15, (.iload 4, 17)), (17, (.invokevirtual 143522, 20)), (20, (.i2l, 21)), (21, (.lreturn, 22)), (22, (.aload 0, 23)), (23, (.iload 1, 24)), (24, (.iload 2, 25)), (25, (.iload 3, 26)), (26, (.invokevirtual 188580, 29)), (29, (.aload 0, 30)), (30, (.getfield 2613, 33)), (33, (.lreturn, 34))]
def zc_M_row : List (Nat × (Instr × Nat)) := [(0, (.aload 0, 1)), (1, (.iload 1, 2)), (2, (.iload 2, 3)), (3, (.iload 3, 4)), (4, (.invokevirtual 189604, 7)), (7, (.istore 5, 9)), (9, (.iload 5, 11)), (11, (.ifCond .eq 28, 14)), (14, (.iload 4, 16)), (16, (.i2l, 17)), (17, (.sipush 0, 18)), (18, (.iload 2, 19)), (19, (.iconst 1, 20)), (20, (.isub, 21)), (21, (.i2l, 22)), (22, (.invokestatic 144387, 25)), (25, (.ifCond .ne 34, 28)), (28, (.aload 0, 29)), (29, (.iconst 0, 30)), (30, (.invokevirtual 143522, 33)), (33, (.ireturn, 34)), (34, (.iload 5, 36)), (36, (.ifCond .lt 46, 39)), (39, (.aload 0, 40)), (40, (.iload 5, 42)), (42, (.invokevirtual 143522, 45)), (45, (.ireturn, 46)), (46, (.aload 0, 47)), (47, (.iload 1, 48)), (48, (.iload 2, 49)), (49, (.iload 3, 50)), (50, (.invokevirtual 188580, 53)), (53, (.aload 0, 54)), (54, (.aload 0, 55)), (55, (.getfield 2616, 58)), (58, (.iload 2, 59)), (59, (.iload 4, 61)), (61, (.invokevirtual 187556, 64)), (64, (.istore 6, 66)), (66, (.iconst 10, 68)), (68, (.aload 0, 69)), (69, (.getfield 2603, 72)), (72, (.iload 6, 74)), (74, (.iaload, 75)), (75, (.imul, 76)), (76, (.aload 0, 77)), (77, (.getfield 2607, 80)), (80, (.iload 6, 82)), (82, (.iaload, 83)), (83, (.iadd, 84)), (84, (.ireturn, 85))]
def zc_M_findFeints : List (Nat × (Instr × Nat)) := [(0, (.aload 0, 1)), (1, (.getfield 2563, 4)), (4, (.iconst 1, 5)), (5, (.iaload, 6)), (6, (.iconst 10, 8)), (8, (.if_icmp .ge 20, 11)), (11, (.aload 0, 12)), (12, (.getfield 2563, 15)), (15, (.iconst 1, 16)), (16, (.iaload, 17)), (17, (.goto 22, 20)), (20, (.iconst 10, 22)), (22, (.istore 2, 23)), (23, (.aload 0, 24)), (24, (.iconst 0, 25)), (25, (.putfield 2620, 28)), (28, (.aload 0, 29)), (29, (.iconst 0, 30)), (30, (.putfield 2624, 33)), (33, (.aload 0, 34)), (34, (.iconst 1, 35)), (35, (.iload 2, 36)), (36, (.ishl, 37)), (37, (.iconst 1, 38)), (38, (.isub, 39)), (39, (.putfield 2628, 42)), (42, (.aload 0, 43)), (43, (.iconst 0, 44)), (44, (.putfield 2632, 47)), (47, (.iconst 0, 48)), (48, (.istore 3, 49)), (49, (.iload 3, 50)), (50, (.iconst 1, 51)), (51, (.iload 2, 52)), (52, (.ishl, 53)), (53, (.if_icmp .ge 187, 56)), (56, (.aload 0, 57)), (57, (.getfield 2563, 60)), (60, (.iconst 2, 61)), (61, (.iaload, 62)), (62, (.istore 4, 64)), (64, (.iconst 0, 65)), (65, (.istore 5, 67)), (67, (.iload 5, 69)), (69, (.aload 0, 70)), (70, (.getfield 2563, 73)), (73, (.iconst 1, 74)), (74, (.iaload, 75)), (75, (.if_icmp .ge 126, 78)), (78, (.iload 3, 79)), (79, (.iload 5, 81)), (81, (.ishr, 82)), (82, (.iconst 1, 83)), (83, (.iand, 84)), (84, (.iconst 1, 85)), (85, (.if_icmp .ne 92, 88)), (88, (.iconst 1, 89)), (89, (.goto 99, 92)), (92, (.aload 0, 93)), (93, (.iload 5, 95)), (95, (.iconst 0, 96)), (96, (.invokevirtual 149667, 99)), (99, (.aload 0, 100)), (100, (.iload 5, 102)), (102, (.iconst 1, 103)), (103, (.invokevirtual 149667, 106)), (106, (.aload 0, 107)), (107, (.iload 5, 109)), (109, (.iconst 2, 110)), (110, (.invokevirtual 149667, 113)), (113, (.iload 4, 115)), (115, (.invokestatic 153604, 118)), (118, (.istore 4, 120)), (120, (.iinc 5 1, 123)), (123, (.goto 67, 126)), (126, (.iload 4, 128)), (128, (.iload 1, 129)), (129, (.if_icmp .ne 181, 132)), (132, (.aload 0, 133)), (133, (.aload 0, 134)), (134, (.getfield 2620, 137)), (137, (.ifCond .ne 144, 140)), (140, (.iload 3, 141)), (141, (.goto 148, 144)), (144, (.aload 0, 145)), (145, (.getfield 2624, 148)), (148, (.putfield 2624, 151)), (151, (.aload 0, 152)), (152, (.dup, 153)), (153, (.getfield 2620, 156)), (156, (.iconst 1, 157)), (157, (.iadd, 158)), (158, (.putfield 2620, 161)), (161, (.aload 0, 162)), (162, (.dup, 163)), (163, (.getfield 2628, 166)), (166, (.iload 3, 167)), (167, (.iand, 168)), (168, (.putfield 2628, 171)), (171, (.aload 0, 172)), (172, (.dup, 173)), (173, (.getfield 2632, 176)), (176, (.iload 3, 177)), (177, (.ior, 178)), (178, (.putfield 2632, 181)), (181, (.iinc 3 1, 184)), (184, (.goto 49, 187)), (187, (.return_, 188))]
def zc_M_isWhere : List (Nat × (Instr × Nat)) := [(0, (.iload 1, 1)), (1, (.i2l, 2)), (2, (.sipush (-1), 5)), (5, (.aload 0, 6)), (6, (.getfield 2563, 9)), (9, (.iconst 0, 10)), (10, (.iaload, 11)), (11, (.iconst 1, 12)), (12, (.isub, 13)), (13, (.i2l, 14)), (14, (.invokestatic 144387, 17)), (17, (.freturn, 18))]
def zc_M_feints : List (Nat × (Instr × Nat)) := [(0, (.aload 0, 1)), (1, (.iload 1, 2)), (2, (.invokevirtual 193698, 5)), (5, (.ifCond .ne 14, 8)), (8, (.aload 0, 9)), (9, (.iconst 0, 10)), (10, (.invokevirtual 143522, 13)), (13, (.ireturn, 14)), (14, (.aload 0, 15)), (15, (.iload 1, 16)), (16, (.invokevirtual 192674, 19)), (19, (.aload 0, 20)), (20, (.getfield 2620, 23)), (23, (.ireturn, 24))]
def zc_M_surely : List (Nat × (Instr × Nat)) := [(0, (.aload 0, 1)), (1, (.iload 1, 2)), (2, (.invokevirtual 193698, 5)), (5, (.ifCond .eq 20, 8)), (8, (.iload 2, 9)), (9, (.i2l, 10)), (10, (.sipush 0, 11)), (11, (.sipush (2), 14)), (14, (.invokestatic 144387, 17)), (17, (.ifCond .ne 26, 20)), (20, (.aload 0, 21)), (21, (.iconst 0, 22)), (22, (.invokevirtual 143522, 25)), (25, (.ireturn, 26)), (26, (.aload 0, 27)), (27, (.iload 1, 28)), (28, (.invokevirtual 192674, 31)), (31, (.aload 0, 32)), (32, (.getfield 2620, 35)), (35, (.ifCond .ne 46, 38)), (38, (.aload 0, 39)), (39, (.iconst 3, 40)), (40, (.invokevirtual 143522, 43)), (43, (.goto 73, 46)), (46, (.iload 2, 47)), (47, (.ifCond .ne 57, 50)), (50, (.aload 0, 51)), (51, (.getfield 2624, 54)), (54, (.goto 73, 57)), (57, (.iload 2, 58)), (58, (.iconst 1, 59)), (59, (.if_icmp .ne 69, 62)), (62, (.aload 0, 63)), (63, (.getfield 2628, 66)), (66, (.goto 73, 69)), (69, (.aload 0, 70)), (70, (.getfield 2632, 73)), (73, (.ireturn, 74))]
def zc_M_power : List (Nat × (Instr × Nat)) := [(0, (.iconst 1, 1)), (1, (.istore 1, 2)), (2, (.iconst 0, 3)), (3, (.istore 2, 4)), (4, (.iload 2, 5)), (5, (.iload 0, 6)), (6, (.if_icmp .ge 20, 9)), (9, (.iload 1, 10)), (10, (.iconst 15, 12)), (12, (.imul, 13)), (13, (.istore 1, 14)), (14, (.iinc 2 1, 17)), (17, (.goto 4, 20)), (20, (.iload 1, 21)), (21, (.ireturn, 22))]
def zc_M_rings : List (Nat × (Instr × Nat)) := [(0, (.iconst 0, 1)), (1, (.istore 1, 2)), (2, (.iconst 0, 3)), (3, (.istore 2, 4)), (4, (.iload 2, 5)), (5, (.aload 0, 6)), (6, (.getfield 2563, 9)), (9, (.iconst 1, 10)), (10, (.iaload, 11)), (11, (.if_icmp .ge 41, 14)), (14, (.iload 1, 15)), (15, (.aload 0, 16)), (16, (.iload 2, 17)), (17, (.iconst 1, 18)), (18, (.invokevirtual 149667, 21)), (21, (.invokestatic 196609, 24)), (24, (.aload 0, 25)), (25, (.iload 2, 26)), (26, (.invokevirtual 154786, 29)), (29, (.invokestatic 196609, 32)), (32, (.iadd, 33)), (33, (.iadd, 34)), (34, (.istore 1, 35)), (35, (.iinc 2 1, 38)), (38, (.goto 4, 41)), (41, (.iload 1, 42)), (42, (.ireturn, 43))]
def zc_M_orders : List (Nat × (Instr × Nat)) := [(0, (.aload 0, 1)), (1, (.iload 1, 2)), (2, (.invokevirtual 193698, 5)), (5, (.ifCond .ne 14, 8)), (8, (.aload 0, 9)), (9, (.iconst 0, 10)), (10, (.invokevirtual 143522, 13)), (13, (.ireturn, 14)), (14, (.aload 0, 15)), (15, (.getfield 2563, 18)), (18, (.iconst 1, 19)), (19, (.iaload, 20)), (20, (.iconst 7, 22)), (22, (.if_icmp .le 32, 25)), (25, (.aload 0, 26)), (26, (.iconst 6, 28)), (28, (.invokevirtual 143522, 31)), (31, (.ireturn, 32)), (32, (.iconst 1, 33)), (33, (.aload 0, 34)), (34, (.getfield 2563, 37)), (37, (.iconst 1, 38)), (38, (.iaload, 39)), (39, (.ishl, 40)), (40, (.istore 2, 41)), (41, (.iconst 0, 42)), (42, (.istore 3, 43)), (43, (.iload 3, 44)), (44, (.iconst 7, 46)), (46, (.iload 2, 47)), (47, (.imul, 48)), (48, (.if_icmp .ge 64, 51)), (51, (.aload 0, 52)), (52, (.getfield 2639, 55)), (55, (.iload 3, 56)), (56, (.iconst 0, 57)), (57, (.iastore, 58)), (58, (.iinc 3 1, 61)), (61, (.goto 43, 64)), (64, (.aload 0, 65)), (65, (.getfield 2639, 68)), (68, (.aload 0, 69)), (69, (.getfield 2563, 72)), (72, (.iconst 2, 73)), (73, (.iaload, 74)), (74, (.iconst 1, 75)), (75, (.iadd, 76)), (76, (.iconst 1, 77)), (77, (.iastore, 78)), (78, (.iconst 0, 79)), (79, (.istore 3, 80)), (80, (.iload 3, 81)), (81, (.iload 2, 82)), (82, (.if_icmp .ge 209, 85)), (85, (.iconst (-1), 86)), (86, (.istore 4, 88)), (88, (.iload 4, 90)), (90, (.aload 0, 91)), (91, (.getfield 2563, 94)), (94, (.iconst 0, 95)), (95, (.iaload, 96)), (96, (.if_icmp .ge 203, 99)), (99, (.aload 0, 100)), (100, (.getfield 2639, 103)), (103, (.iconst 7, 105)), (105, (.iload 3, 106)), (106, (.imul, 107)), (107, (.iload 4, 109)), (109, (.iadd, 110)), (110, (.iconst 1, 111)), (111, (.iadd, 112)), (112, (.iaload, 113)), (113, (.istore 5, 115)), (115, (.iconst 0, 116)), (116, (.istore 6, 118)), (118, (.iload 6, 120)), (120, (.aload 0, 121)), (121, (.getfield 2563, 124)), (124, (.iconst 1, 125)), (125, (.iaload, 126)), (126, (.if_icmp .ge 197, 129)), (129, (.iload 5, 131)), (131, (.ifCond .le 197, 134)), (134, (.iload 3, 135)), (135, (.iload 6, 137)), (137, (.ishr, 138)), (138, (.iconst 1, 139)), (139, (.iand, 140)), (140, (.ifCond .ne 191, 143)), (143, (.aload 0, 144)), (144, (.getfield 2639, 147)), (147, (.iconst 7, 149)), (149, (.iload 3, 150)), (150, (.iconst 1, 151)), (151, (.iload 6, 153)), (153, (.ishl, 154)), (154, (.ior, 155)), (155, (.imul, 156)), (156, (.aload 0, 157)), (157, (.iload 6, 159)), (159, (.iconst 0, 160)), (160, (.invokevirtual 149667, 163)), (163, (.aload 0, 164)), (164, (.iload 6, 166)), (166, (.iconst 1, 167)), (167, (.invokevirtual 149667, 170)), (170, (.aload 0, 171)), (171, (.iload 6, 173)), (173, (.iconst 2, 174)), (174, (.invokevirtual 149667, 177)), (177, (.iload 4, 179)), (179, (.invokestatic 153604, 182)), (182, (.iadd, 183)), (183, (.iconst 1, 184)), (184, (.iadd, 185)), (185, (.dup2, 186)), (186, (.iaload, 187)), (187, (.iload 5, 189)), (189, (.iadd, 190)), (190, (.iastore, 191)), (191, (.iinc 6 1, 194)), (194, (.goto 118, 197)), (197, (.iinc 4 1, 200)), (200, (.goto 88, 203)), (203, (.iinc 3 1, 206)), (206, (.goto 80, 209)), (209, (.aload 0, 210)), (210, (.getfield 2639, 213)), (213, (.iconst 7, 215)), (215, (.iload 2, 216)), (216, (.iconst 1, 217)), (217, (.isub, 218)), (218, (.imul, 219)), (219, (.iload 1, 220)), (220, (.iadd, 221)), (221, (.iconst 1, 222)), (222, (.iadd, 223)), (223, (.iaload, 224)), (224, (.ireturn, 225))]
def zc_M_whose : List (Nat × (Instr × Nat)) := [(0, (.aload 0, 1)), (1, (.getfield 2563, 4)), (4, (.iconst 55, 6)), (6, (.iconst 4, 7)), (7, (.iload 1, 8)), (8, (.imul, 9)), (9, (.iadd, 10)), (10, (.iload 2, 11)), (11, (.iadd, 12)), (12, (.iaload, 13)), (13, (.ireturn, 14))]
def zc_M_sets : List (Nat × (Instr × Nat)) := [(0, (.aload 0, 1)), (1, (.getfield 2563, 4)), (4, (.iconst 55, 6)), (6, (.iconst 4, 7)), (7, (.iload 1, 8)), (8, (.imul, 9)), (9, (.iadd, 10)), (10, (.iload 2, 11)), (11, (.iadd, 12)), (12, (.iload 3, 13)), (13, (.iastore, 14)), (14, (.return_, 15))]
def zc_M_hasLeft : List (Nat × (Instr × Nat)) := [(0, (.aload 0, 1)), (1, (.iload 1, 2)), (2, (.iconst 3, 3)), (3, (.invokevirtual 199843, 6)), (6, (.aload 0, 7)), (7, (.iload 1, 8)), (8, (.iconst 2, 9)), (9, (.invokevirtual 199843, 12)), (12, (.if_icmp .ge 24, 15)), (15, (.aload 0, 16)), (16, (.iload 1, 17)), (17, (.iconst 0, 18)), (18, (.invokevirtual 199843, 21)), (21, (.ifCond .ne 28, 24)), (24, (.iconst 1, 25)), (25, (.goto 29, 28)), (28, (.iconst 0, 29)), (29, (.freturn, 30))]
def zc_M_player : List (Nat × (Instr × Nat)) := [(0, (.iload 1, 1)), (1, (.invokestatic 148481, 4)), (4, (.ifCond .eq 60, 7)), (7, (.iload 2, 8)), (8, (.i2l, 9)), (9, (.sipush 0, 10)), (10, (.sipush (2), 13)), (13, (.invokestatic 144387, 16)), (16, (.ifCond .eq 60, 19)), (19, (.iload 3, 20)), (20, (.i2l, 21)), (21, (.iload 2, 22)), (22, (.ifCond .ne 29, 25)), (25, (.sipush 0, 26)), (26, (.goto 30, 29)), (29, (.sipush 1, 30)), (30, (.iload 2, 31)), (31, (.ifCond .ne 40, 34)), (34, (.sipush (9999), 37)), (37, (.goto 54, 40)), (40, (.iload 2, 41)), (41, (.iconst 1, 42)), (42, (.if_icmp .ne 51, 45)), (45, (.sipush (99), 48)), (48, (.goto 54, 51)), (51, (.sipush (9), 54)), (54, (.invokestatic 144387, 57)), (57, (.ifCond .ne 66, 60)), (60, (.aload 0, 61)), (61, (.iconst 0, 62)), (62, (.invokevirtual 143522, 65)), (65, (.ireturn, 66)), (66, (.aload 0, 67)), (67, (.iload 1, 68)), (68, (.iload 2, 69)), (69, (.invokevirtual 199843, 72)), (72, (.istore 4, 74)), (74, (.aload 0, 75)), (75, (.iload 1, 76)), (76, (.iload 2, 77)), (77, (.iload 3, 78)), (78, (.invokevirtual 200868, 81)), (81, (.iload 4, 83)), (83, (.ireturn, 84))]
def zc_M_told : List (Nat × (Instr × Nat)) := [(0, (.iload 1, 1)), (1, (.invokestatic 148481, 4)), (4, (.ifCond .eq 19, 7)), (7, (.iload 2, 8)), (8, (.i2l, 9)), (9, (.sipush 0, 10)), (10, (.sipush (4), 13)), (13, (.invokestatic 144387, 16)), (16, (.ifCond .ne 25, 19)), (19, (.aload 0, 20)), (20, (.iconst 0, 21)), (21, (.invokevirtual 143522, 24)), (24, (.ireturn, 25)), (25, (.iload 2, 26)), (26, (.iconst 4, 27)), (27, (.if_icmp .ge 39, 30)), (30, (.aload 0, 31)), (31, (.iload 1, 32)), (32, (.iload 2, 33)), (33, (.invokevirtual 199843, 36)), (36, (.goto 52, 39)), (39, (.aload 0, 40)), (40, (.iload 1, 41)), (41, (.invokevirtual 201890, 44)), (44, (.ifCond .eq 51, 47)), (47, (.iconst 1, 48)), (48, (.goto 52, 51)), (51, (.iconst 0, 52)), (52, (.ireturn, 53))]
def zc_M_aRound : List (Nat × (Instr × Nat)) := [(0, (.aload 0, 1)), (1, (.iload 1, 2)), (2, (.iconst 1, 3)), (3, (.invokevirtual 199843, 6)), (6, (.istore 3, 7)), (7, (.iload 3, 8)), (8, (.aload 0, 9)), (9, (.iload 1, 10)), (10, (.iconst 0, 11)), (11, (.invokevirtual 199843, 14)), (14, (.if_icmp .ge 21, 17)), (17, (.iload 3, 18)), (18, (.goto 27, 21)), (21, (.aload 0, 22)), (22, (.iload 1, 23)), (23, (.iconst 0, 24)), (24, (.invokevirtual 199843, 27)), (27, (.istore 4, 29)), (29, (.iload 2, 30)), (30, (.ifCond .eq 91, 33)), (33, (.aload 0, 34)), (34, (.iload 1, 35)), (35, (.iconst 0, 36)), (36, (.aload 0, 37)), (37, (.iload 1, 38)), (38, (.iconst 0, 39)), (39, (.invokevirtual 199843, 42)), (42, (.iload 4, 44)), (44, (.iadd, 45)), (45, (.invokevirtual 200868, 48)), (48, (.aload 0, 49)), (49, (.iload 1, 50)), (50, (.iconst 1, 51)), (51, (.iconst 2, 52)), (52, (.iload 3, 53)), (53, (.imul, 54)), (54, (.iconst 99, 56)), (56, (.if_icmp .le 64, 59)), (59, (.iconst 99, 61)), (61, (.goto 67, 64)), (64, (.iconst 2, 65)), (65, (.iload 3, 66)), (66, (.imul, 67)), (67, (.invokevirtual 200868, 70)), (70, (.aload 0, 71)), (71, (.iload 1, 72)), (72, (.iconst 3, 73)), (73, (.iconst 0, 74)), (74, (.invokevirtual 200868, 77)), (77, (.aload 0, 78)), (78, (.getfield 2563, 81)), (81, (.iconst 4, 82)), (82, (.dup2, 83)), (83, (.iaload, 84)), (84, (.iload 4, 86)), (86, (.isub, 87)), (87, (.iastore, 88)), (88, (.goto 151, 91)), (91, (.aload 0, 92)), (92, (.iload 1, 93)), (93, (.iconst 0, 94)), (94, (.aload 0, 95)), (95, (.iload 1, 96)), (96, (.iconst 0, 97)), (97, (.invokevirtual 199843, 100)), (100, (.iload 4, 102)), (102, (.isub, 103)), (103, (.invokevirtual 200868, 106)), (106, (.aload 0, 107)), (107, (.iload 1, 108)), (108, (.iconst 1, 109)), (109, (.iload 3, 110)), (110, (.iconst 2, 111)), (111, (.idiv, 112)), (112, (.iconst 1, 113)), (113, (.if_icmp .ge 120, 116)), (116, (.iconst 1, 117)), (117, (.goto 123, 120)), (120, (.iload 3, 121)), (121, (.iconst 2, 122)), (122, (.idiv, 123)), (123, (.invokevirtual 200868, 126)), (126, (.aload 0, 127)), (127, (.iload 1, 128)), (128, (.iconst 3, 129)), (129, (.aload 0, 130)), (130, (.iload 1, 131)), (131, (.iconst 3, 132)), (132, (.invokevirtual 199843, 135)), (135, (.iconst 1, 136)), (136, (.iadd, 137)), (137, (.invokevirtual 200868, 140)), (140, (.aload 0, 141)), (141, (.getfield 2563, 144)), (144, (.iconst 4, 145)), (145, (.dup2, 146)), (146, (.iaload, 147)), (147, (.iload 4, 149)), (149, (.iadd, 150)), (150, (.iastore, 151)), (151, (.iload 4, 153)), (153, (.ireturn, 154))]
def zc_M_round : List (Nat × (Instr × Nat)) := [(0, (.iload 1, 1)), (1, (.invokestatic 148481, 4)), (4, (.ifCond .eq 17, 7)), (7, (.iload 2, 8)), (8, (.i2l, 9)), (9, (.sipush 0, 10)), (10, (.sipush 1, 11)), (11, (.invokestatic 144387, 14)), (14, (.ifCond .ne 23, 17)), (17, (.aload 0, 18)), (18, (.iconst 0, 19)), (19, (.invokevirtual 143522, 22)), (22, (.ireturn, 23)), (23, (.aload 0, 24)), (24, (.iload 1, 25)), (25, (.invokevirtual 201890, 28)), (28, (.ifCond .eq 39, 31)), (31, (.aload 0, 32)), (32, (.iconst 4, 33)), (33, (.invokevirtual 143522, 36)), (36, (.goto 54, 39)), (39, (.aload 0, 40)), (40, (.iload 1, 41)), (41, (.iload 2, 42)), (42, (.iconst 1, 43)), (43, (.if_icmp .ne 50, 46)), (46, (.iconst 1, 47)), (47, (.goto 51, 50)), (50, (.iconst 0, 51)), (51, (.invokevirtual 204963, 54)), (54, (.ireturn, 55))]
def zc_M_play : List (Nat × (Instr × Nat)) := [(0, (.iload 1, 1)), (1, (.invokestatic 148481, 4)), (4, (.ifCond .eq 14, 7)), (7, (.iload 2, 8)), (8, (.invokestatic 148481, 11)), (11, (.ifCond .ne 20, 14)), (14, (.aload 0, 15)), (15, (.iconst 0, 16)), (16, (.invokevirtual 143522, 19)), (19, (.ireturn, 20)), (20, (.aload 0, 21)), (21, (.iload 1, 22)), (22, (.invokevirtual 201890, 25)), (25, (.ifCond .eq 34, 28)), (28, (.aload 0, 29)), (29, (.iconst 4, 30)), (30, (.invokevirtual 143522, 33)), (33, (.ireturn, 34)), (34, (.aload 0, 35)), (35, (.iload 2, 36)), (36, (.aload 0, 37)), (37, (.getfield 2563, 40)), (40, (.iconst 1, 41)), (41, (.iaload, 42)), (42, (.invokevirtual 174243, 45)), (45, (.aload 0, 46)), (46, (.aload 0, 47)), (47, (.getfield 2563, 50)), (50, (.iconst 1, 51)), (51, (.iaload, 52)), (52, (.invokevirtual 162978, 55)), (55, (.if_icmp .ne 62, 58)), (58, (.iconst 1, 59)), (59, (.goto 63, 62)), (62, (.iconst 0, 63)), (63, (.istore 3, 64)), (64, (.aload 0, 65)), (65, (.iload 1, 66)), (66, (.iload 3, 67)), (67, (.invokevirtual 204963, 70)), (70, (.istore 4, 72)), (72, (.iload 3, 73)), (73, (.ifCond .eq 80, 76)), (76, (.iconst 1, 77)), (77, (.goto 81, 80)), (80, (.iconst 0, 81)), (81, (.ireturn, 82))]
def zc_M_tries : List (Nat × (Instr × Nat)) := [(0, (.aload 0, 1)), (1, (.iconst 0, 2)), (2, (.putfield 2640, 5)), (5, (.aload 0, 6)), (6, (.iconst 0, 7)), (7, (.putfield 2644, 10)), (10, (.aload 0, 11)), (11, (.getfield 2563, 14)), (14, (.aload 0, 15)), (15, (.getfield 2567, 18)), (18, (.invokestatic 145410, 21)), (21, (.iconst 0, 22)), (22, (.istore 3, 23)), (23, (.iload 3, 24)), (24, (.iconst 1, 25)), (25, (.iload 2, 26)), (26, (.ishl, 27)), (27, (.if_icmp .ge 164, 30)), (30, (.aload 0, 31)), (31, (.getfield 2567, 34)), (34, (.aload 0, 35)), (35, (.getfield 2563, 38)), (38, (.invokestatic 145410, 41)), (41, (.iconst 0, 42)), (42, (.istore 4, 44)), (44, (.iload 4, 46)), (46, (.iload 2, 47)), (47, (.if_icmp .ge 158, 50)), (50, (.aload 0, 51)), (51, (.iload 1, 52)), (52, (.invokevirtual 201890, 55)), (55, (.ifCond .ne 158, 58)), (58, (.aload 0, 59)), (59, (.iload 1, 60)), (60, (.iload 3, 61)), (61, (.iload 4, 63)), (63, (.ishr, 64)), (64, (.iconst 1, 65)), (65, (.iand, 66)), (66, (.iconst 1, 67)), (67, (.if_icmp .ne 74, 70)), (70, (.iconst 1, 71)), (71, (.goto 75, 74)), (74, (.iconst 0, 75)), (75, (.invokevirtual 204963, 78)), (78, (.istore 5, 80)), (80, (.aload 0, 81)), (81, (.getfield 2563, 84)), (84, (.iconst 4, 85)), (85, (.iaload, 86)), (86, (.aload 0, 87)), (87, (.getfield 2567, 90)), (90, (.iconst 4, 91)), (91, (.iaload, 92)), (92, (.isub, 93)), (93, (.istore 6, 95)), (95, (.aload 0, 96)), (96, (.iload 3, 97)), (97, (.iconst 1, 98)), (98, (.iand, 99)), (99, (.iconst 1, 100)), (100, (.if_icmp .ne 117, 103)), (103, (.iload 6, 105)), (105, (.aload 0, 106)), (106, (.getfield 2644, 109)), (109, (.if_icmp .le 117, 112)), (112, (.iload 6, 114)), (114, (.goto 121, 117)), (117, (.aload 0, 118)), (118, (.getfield 2644, 121)), (121, (.putfield 2644, 124)), (124, (.aload 0, 125)), (125, (.iload 3, 126)), (126, (.iconst 1, 127)), (127, (.iand, 128)), (128, (.ifCond .ne 145, 131)), (131, (.iload 6, 133)), (133, (.aload 0, 134)), (134, (.getfield 2640, 137)), (137, (.if_icmp .le 145, 140)), (140, (.iload 6, 142)), (142, (.goto 149, 145)), (145, (.aload 0, 146)), (146, (.getfield 2640, 149)), (149, (.putfield 2640, 152)), (152, (.iinc 4 1, 155)), (155, (.goto 44, 158)), (158, (.iinc 3 1, 161)), (161, (.goto 23, 164)), (164, (.aload 0, 165)), (165, (.getfield 2567, 168)), (168, (.aload 0, 169)), (169, (.getfield 2563, 172)), (172, (.invokestatic 145410, 175)), (175, (.return_, 176))]
def zc_M_bestOf : List (Nat × (Instr × Nat)) := [(0, (.aload 0, 1)), (1, (.iload 1, 2)), (2, (.iload 2, 3)), (3, (.invokevirtual 208035, 6)), (6, (.aload 0, 7)), (7, (.getfield 2644, 10)), (10, (.aload 0, 11)), (11, (.getfield 2640, 14)), (14, (.if_icmp .le 24, 17)), (17, (.aload 0, 18)), (18, (.getfield 2644, 21)), (21, (.goto 28, 24)), (24, (.aload 0, 25)), (25, (.getfield 2640, 28)), (28, (.ireturn, 29))]
def zc_M_best : List (Nat × (Instr × Nat)) := [(0, (.iload 1, 1)), (1, (.invokestatic 148481, 4)), (4, (.ifCond .eq 28, 7)), (7, (.iload 2, 8)), (8, (.i2l, 9)), (9, (.sipush 1, 10)), (10, (.sipush (10), 13)), (13, (.invokestatic 144387, 16)), (16, (.ifCond .eq 28, 19)), (19, (.aload 0, 20)), (20, (.iload 1, 21)), (21, (.iload 2, 22)), (22, (.invokevirtual 209059, 25)), (25, (.goto 33, 28)), (28, (.aload 0, 29)), (29, (.iconst 0, 30)), (30, (.invokevirtual 143522, 33)), (33, (.ireturn, 34))]
def zc_M_should : List (Nat × (Instr × Nat)) := [(0, (.iload 1, 1)), (1, (.invokestatic 148481, 4)), (4, (.ifCond .eq 19, 7)), (7, (.iload 2, 8)), (8, (.i2l, 9)), (9, (.sipush 1, 10)), (10, (.sipush (10), 13)), (13, (.invokestatic 144387, 16)), (16, (.ifCond .ne 25, 19)), (19, (.aload 0, 20)), (20, (.iconst 0, 21)), (21, (.invokevirtual 143522, 24)), (24, (.ireturn, 25)), (25, (.aload 0, 26)), (26, (.iload 1, 27)), (27, (.iload 2, 28)), (28, (.invokevirtual 209059, 31)), (31, (.istore 3, 32)), (32, (.iload 3, 33)), (33, (.ifCond .ne 40, 36)), (36, (.iconst (-1), 37)), (37, (.goto 56, 40)), (40, (.aload 0, 41)), (41, (.getfield 2644, 44)), (44, (.aload 0, 45)), (45, (.getfield 2640, 48)), (48, (.if_icmp .le 55, 51)), (51, (.iconst 1, 52)), (52, (.goto 56, 55)), (55, (.iconst 0, 56)), (56, (.ireturn, 57))]
def zc_M_richest : List (Nat × (Instr × Nat)) := [(0, (.iload 1, 1)), (1, (.i2l, 2)), (2, (.sipush 1, 3)), (3, (.sipush (10), 6)), (6, (.invokestatic 144387, 9)), (9, (.ifCond .ne 18, 12)), (12, (.aload 0, 13)), (13, (.iconst 0, 14)), (14, (.invokevirtual 143522, 17)), (17, (.ireturn, 18)), (18, (.iconst 0, 19)), (19, (.istore 2, 20)), (20, (.iconst (-1), 21)), (21, (.istore 3, 22)), (22, (.iconst 0, 23)), (23, (.istore 4, 25)), (25, (.iload 4, 27)), (27, (.iconst 4, 28)), (28, (.if_icmp .ge 72, 31)), (31, (.aload 0, 32)), (32, (.iload 4, 34)), (34, (.iload 1, 35)), (35, (.invokevirtual 209059, 38)), (38, (.istore 5, 40)), (40, (.iload 5, 42)), (42, (.iload 3, 43)), (43, (.if_icmp .le 51, 46)), (46, (.iload 4, 48)), (48, (.goto 52, 51)), (51, (.iload 2, 52)), (52, (.istore 2, 53)), (53, (.iload 5, 55)), (55, (.iload 3, 56)), (56, (.if_icmp .le 64, 59)), (59, (.iload 5, 61)), (61, (.goto 65, 64)), (64, (.iload 3, 65)), (65, (.istore 3, 66)), (66, (.iinc 4 1, 69)), (69, (.goto 25, 72)), (72, (.iload 2, 73)), (73, (.ireturn, 74))]
def zc_M_now : List (Nat × (Instr × Nat)) := [(0, (.iload 1, 1)), (1, (.i2l, 2)), (2, (.sipush 0, 3)), (3, (.sipush (4), 6)), (6, (.invokestatic 144387, 9)), (9, (.ifCond .ne 18, 12)), (12, (.aload 0, 13)), (13, (.iconst 0, 14)), (14, (.invokevirtual 143522, 17)), (17, (.ireturn, 18)), (18, (.iconst 0, 19)), (19, (.istore 2, 20)), (20, (.iconst 0, 21)), (21, (.istore 3, 22)), (22, (.iload 3, 23)), (23, (.iconst 4, 24)), (24, (.if_icmp .ge 51, 27)), (27, (.iload 2, 28)), (28, (.aload 0, 29)), (29, (.iload 3, 30)), (30, (.invokevirtual 201890, 33)), (33, (.ifCond .eq 42, 36)), (36, (.iconst 1, 37)), (37, (.iload 3, 38)), (38, (.ishl, 39)), (39, (.goto 43, 42)), (42, (.iconst 0, 43)), (43, (.ior, 44)), (44, (.istore 2, 45)), (45, (.iinc 3 1, 48)), (48, (.goto 22, 51)), (51, (.iload 1, 52)), (52, (.ifCond .ne 64, 55)), (55, (.aload 0, 56)), (56, (.getfield 2563, 59)), (59, (.iconst 4, 60)), (60, (.iaload, 61)), (61, (.goto 107, 64)), (64, (.iload 1, 65)), (65, (.iconst 1, 66)), (66, (.if_icmp .ne 78, 69)), (69, (.aload 0, 70)), (70, (.getfield 2563, 73)), (73, (.iconst 0, 74)), (74, (.iaload, 75)), (75, (.goto 107, 78)), (78, (.iload 1, 79)), (79, (.iconst 2, 80)), (80, (.if_icmp .ne 92, 83)), (83, (.aload 0, 84)), (84, (.getfield 2563, 87)), (87, (.iconst 1, 88)), (88, (.iaload, 89)), (89, (.goto 107, 92)), (92, (.iload 1, 93)), (93, (.iconst 3, 94)), (94, (.if_icmp .ne 106, 97)), (97, (.aload 0, 98)), (98, (.getfield 2563, 101)), (101, (.iconst 2, 102)), (102, (.iaload, 103)), (103, (.goto 107, 106)), (106, (.iload 2, 107)), (107, (.ireturn, 108))]
def zc_M_drawn : List (Nat × (Instr × Nat)) := [(0, (.aload 0, 1)), (1, (.getfield 2563, 4)), (4, (.iconst 3, 5)), (5, (.aload 0, 6)), (6, (.getfield 2563, 9)), (9, (.iconst 3, 10)), (10, (.iaload, 11)), (11, (.iconst (1103515245), 13)), (13, (.imul, 14)), (14, (.iconst 12345, 17)), (17, (.iadd, 18)), (18, (.iastore, 19)), (19, (.aload 0, 20)), (20, (.getfield 2563, 23)), (23, (.iconst 3, 24)), (24, (.iaload, 25)), (25, (.iconst 8, 27)), (27, (.iushr, 28)), (28, (.ireturn, 29))]
def zc_M_shuffle : List (Nat × (Instr × Nat)) := [(0, (.iload 1, 1)), (1, (.i2l, 2)), (2, (.sipush 1, 3)), (3, (.sipush (12), 6)), (6, (.invokestatic 144387, 9)), (9, (.ifCond .ne 18, 12)), (12, (.aload 0, 13)), (13, (.iconst 0, 14)), (14, (.invokevirtual 143522, 17)), (17, (.ireturn, 18)), (18, (.aload 0, 19)), (19, (.getfield 2563, 22)), (22, (.iconst 1, 23)), (23, (.iaload, 24)), (24, (.iload 1, 25)), (25, (.iadd, 26)), (26, (.iconst 14, 28)), (28, (.if_icmp .le 37, 31)), (31, (.aload 0, 32)), (32, (.iconst 1, 33)), (33, (.invokevirtual 143522, 36)), (36, (.ireturn, 37)), (37, (.iconst 0, 38)), (38, (.istore 2, 39)), (39, (.iload 2, 40)), (40, (.iload 1, 41)), (41, (.if_icmp .ge 109, 44)), (44, (.aload 0, 45)), (45, (.invokevirtual 214177, 48)), (48, (.iconst 7, 50)), (50, (.irem, 51)), (51, (.istore 3, 52)), (52, (.aload 0, 53)), (53, (.invokevirtual 214177, 56)), (56, (.aload 0, 57)), (57, (.getfield 2563, 60)), (60, (.iconst 0, 61)), (61, (.iaload, 62)), (62, (.irem, 63)), (63, (.istore 4, 65)), (65, (.iload 4, 67)), (67, (.iconst 1, 68)), (68, (.iadd, 69)), (69, (.aload 0, 70)), (70, (.invokevirtual 214177, 73)), (73, (.aload 0, 74)), (74, (.getfield 2563, 77)), (77, (.iconst 0, 78)), (78, (.iaload, 79)), (79, (.iconst 1, 80)), (80, (.isub, 81)), (81, (.irem, 82)), (82, (.iadd, 83)), (83, (.aload 0, 84)), (84, (.getfield 2563, 87)), (87, (.iconst 0, 88)), (88, (.iaload, 89)), (89, (.irem, 90)), (90, (.istore 5, 92)), (92, (.aload 0, 93)), (93, (.iload 3, 94)), (94, (.iload 4, 96)), (96, (.iload 5, 98)), (98, (.invokevirtual 157860, 101)), (101, (.istore 6, 103)), (103, (.iinc 2 1, 106)), (106, (.goto 39, 109)), (109, (.aload 0, 110)), (110, (.aload 0, 111)), (111, (.getfield 2563, 114)), (114, (.iconst 1, 115)), (115, (.iaload, 116)), (116, (.invokevirtual 162978, 119)), (119, (.ireturn, 120))]
def zc_M_seed : List (Nat × (Instr × Nat)) := [(0, (.aload 0, 1)), (1, (.getfield 2563, 4)), (4, (.iconst 3, 5)), (5, (.iaload, 6)), (6, (.istore 2, 7)), (7, (.aload 0, 8)), (8, (.getfield 2563, 11)), (11, (.iconst 3, 12)), (12, (.iload 1, 13)), (13, (.iastore, 14)), (14, (.iload 2, 15)), (15, (.ireturn, 16))]
def zc_M_feed : List (Nat × (Instr × Nat)) := [(0, (.iload 2, 1)), (1, (.i2l, 2)), (2, (.sipush 1, 3)), (3, (.sipush (4), 6)), (6, (.invokestatic 144387, 9)), (9, (.ifCond .ne 18, 12)), (12, (.aload 0, 13)), (13, (.iconst 0, 14)), (14, (.invokevirtual 143522, 17)), (17, (.ireturn, 18)), (18, (.aload 0, 19)), (19, (.getfield 2584, 22)), (22, (.iload 2, 23)), (23, (.iadd, 24)), (24, (.iconst 120, 26)), (26, (.if_icmp .le 35, 29)), (29, (.aload 0, 30)), (30, (.iconst 1, 31)), (31, (.invokevirtual 143522, 34)), (34, (.ireturn, 35)), (35, (.iload 2, 36)), (36, (.iconst 1, 37)), (37, (.isub, 38)), (38, (.istore 3, 39)), (39, (.iload 3, 40)), (40, (.ifCond .lt 75, 43)), (43, (.aload 0, 44)), (44, (.getfield 2583, 47)), (47, (.aload 0, 48)), (48, (.getfield 2584, 51)), (51, (.iload 1, 52)), (52, (.iconst 8, 54)), (54, (.iload 3, 55)), (55, (.imul, 56)), (56, (.ishr, 57)), (57, (.i2b, 58)), (58, (.bastore, 59)), (59, (.aload 0, 60)), (60, (.dup, 61)), (61, (.getfield 2584, 64)), (64, (.iconst 1, 65)), (65, (.iadd, 66)), (66, (.putfield 2584, 69)), (69, (.iinc 3 (-1), 72)), (72, (.goto 39, 75)), (75, (.aload 0, 76)), (76, (.getfield 2584, 79)), (79, (.ireturn, 80))]
def zc_M_wipe : List (Nat × (Instr × Nat)) := [(0, (.aload 0, 1)), (1, (.getfield 2584, 4)), (4, (.istore 1, 5)), (5, (.aload 0, 6)), (6, (.iconst 0, 7)), (7, (.putfield 2584, 10)), (10, (.iload 1, 11)), (11, (.ireturn, 12))]
def zc_M_letter : List (Nat × (Instr × Nat)) := [(0, (.iload 0, 1)), (1, (.iconst 97, 3)), (3, (.if_icmp .lt 21, 6)), (6, (.iload 0, 7)), (7, (.iconst 122, 9)), (9, (.if_icmp .gt 21, 12)), (12, (.iload 0, 13)), (13, (.iconst 97, 15)), (15, (.isub, 16)), (16, (.iconst 1, 17)), (17, (.iadd, 18)), (18, (.goto 22, 21)), (21, (.iconst 0, 22)), (22, (.ireturn, 23))]
def zc_M_isDigit : List (Nat × (Instr × Nat)) := [(0, (.iload 0, 1)), (1, (.iconst 48, 3)), (3, (.if_icmp .lt 16, 6)), (6, (.iload 0, 7)), (7, (.iconst 57, 9)), (9, (.if_icmp .gt 16, 12)), (12, (.iconst 1, 13)), (13, (.goto 17, 16)), (16, (.iconst 0, 17)), (17, (.freturn, 18))]
def zc_M_byteAt : List (Nat × (Instr × Nat)) := [(0, (.iload 1, 1)), (1, (.aload 0, 2)), (2, (.getfield 2584, 5)), (5, (.if_icmp .ge 17, 8)), (8, (.aload 0, 9)), (9, (.getfield 2583, 12)), (12, (.iload 1, 13)), (13, (.baload, 14)), (14, (.goto 18, 17)), (17, (.iconst (-1), 18)), (18, (.ireturn, 19))]
def zc_M_next : List (Nat × (Instr × Nat)) := [(0, (.aload 0, 1)), (1, (.aload 0, 2)), (2, (.getfield 2648, 5)), (5, (.invokevirtual 221346, 8)), (8, (.iconst 32, 10)), (10, (.if_icmp .ne 26, 13)), (13, (.aload 0, 14)), (14, (.dup, 15)), (15, (.getfield 2648, 18)), (18, (.iconst 1, 19)), (19, (.iadd, 20)), (20, (.putfield 2648, 23)), (23, (.goto 0, 26)), (26, (.aload 0, 27)), (27, (.aload 0, 28)), (28, (.getfield 2648, 31)), (31, (.putfield 2656, 34)), (34, (.aload 0, 35)), (35, (.sipush 0, 36)), (36, (.putfield 2661, 39)), (39, (.aload 0, 40)), (40, (.aload 0, 41)), (41, (.getfield 2648, 44)), (44, (.invokevirtual 221346, 47)), (47, (.istore 1, 48)), (48, (.aload 0, 49)), (49, (.getfield 2648, 52)), (52, (.aload 0, 53)), (53, (.getfield 2584, 56)), (56, (.if_icmp .ne 67, 59)), (59, (.aload 0, 60)), (60, (.iconst 0, 61)), (61, (.putfield 2652, 64)), (64, (.goto 261, 67)), (67, (.iload 1, 68)), (68, (.iconst 59, 70)), (70, (.if_icmp .ne 91, 73)), (73, (.aload 0, 74)), (74, (.iconst 3, 75)), (75, (.putfield 2652, 78)), (78, (.aload 0, 79)), (79, (.dup, 80)), (80, (.getfield 2648, 83)), (83, (.iconst 1, 84)), (84, (.iadd, 85)), (85, (.putfield 2648, 88)), (88, (.goto 261, 91)), (91, (.iload 1, 92)), (92, (.invokestatic 219137, 95)), (95, (.ifCond .le 173, 98)), (98, (.aload 0, 99)), (99, (.iconst 1, 100)), (100, (.putfield 2652, 103)), (103, (.aload 0, 104)), (104, (.aload 0, 105)), (105, (.getfield 2648, 108)), (108, (.invokevirtual 221346, 111)), (111, (.invokestatic 219137, 114)), (114, (.ifCond .le 261, 117)), (117, (.aload 0, 118)), (118, (.aload 0, 119)), (119, (.getfield 2661, 122)), (122, (.sipush (100000000000000000), 125)), (125, (.lcmp, 126)), (126, (.ifCond .le 136, 129)), (129, (.aload 0, 130)), (130, (.getfield 2661, 133)), (133, (.goto 157, 136)), (136, (.aload 0, 137)), (137, (.getfield 2661, 140)), (140, (.sipush (27), 143)), (143, (.lmul, 144)), (144, (.aload 0, 145)), (145, (.aload 0, 146)), (146, (.getfield 2648, 149)), (149, (.invokevirtual 221346, 152)), (152, (.invokestatic 219137, 155)), (155, (.i2l, 156)), (156, (.ladd, 157)), (157, (.putfield 2661, 160)), (160, (.aload 0, 161)), (161, (.dup, 162)), (162, (.getfield 2648, 165)), (165, (.iconst 1, 166)), (166, (.iadd, 167)), (167, (.putfield 2648, 170)), (170, (.goto 103, 173)), (173, (.iload 1, 174)), (174, (.invokestatic 220161, 177)), (177, (.ifCond .eq 256, 180)), (180, (.aload 0, 181)), (181, (.iconst 2, 182)), (182, (.putfield 2652, 185)), (185, (.aload 0, 186)), (186, (.aload 0, 187)), (187, (.getfield 2648, 190)), (190, (.invokevirtual 221346, 193)), (193, (.invokestatic 220161, 196)), (196, (.ifCond .eq 261, 199)), (199, (.aload 0, 200)), (200, (.aload 0, 201)), (201, (.getfield 2661, 204)), (204, (.sipush (9999), 207)), (207, (.lcmp, 208)), (208, (.ifCond .le 218, 211)), (211, (.aload 0, 212)), (212, (.getfield 2661, 215)), (215, (.goto 240, 218)), (218, (.aload 0, 219)), (219, (.getfield 2661, 222)), (222, (.sipush (10), 225)), (225, (.lmul, 226)), (226, (.aload 0, 227)), (227, (.aload 0, 228)), (228, (.getfield 2648, 231)), (231, (.invokevirtual 221346, 234)), (234, (.i2l, 235)), (235, (.ladd, 236)), (236, (.sipush (48), 239)), (239, (.lsub, 240)), (240, (.putfield 2661, 243)), (243, (.aload 0, 244)), (244, (.dup, 245)), (245, (.getfield 2648, 248)), (248, (.iconst 1, 249)), (249, (.iadd, 250)), (250, (.putfield 2648, 253)), (253, (.goto 185, 256)), (256, (.aload 0, 257)), (257, (.iconst 4, 258)), (258, (.putfield 2652, 261)), (261, (.return_, 262))]
def zc_M_wrongHere : List (Nat × (Instr × Nat)) := [(0, (.aload 0, 1)), (1, (.aload 0, 2)), (2, (.getfield 2664, 5)), (5, (.ifCond .ge 15, 8)), (8, (.aload 0, 9)), (9, (.getfield 2656, 12)), (12, (.goto 19, 15)), (15, (.aload 0, 16)), (16, (.getfield 2664, 19)), (19, (.putfield 2664, 22)), (22, (.return_, 23))]
def zc_M_isWord : List (Nat × (Instr × Nat)) := [(0, (.aload 0, 1)), (1, (.getfield 2652, 4)), (4, (.iconst 1, 5)), (5, (.if_icmp .ne 21, 8)), (8, (.aload 0, 9)), (9, (.getfield 2661, 12)), (12, (.lload 1, 13)), (13, (.lcmp, 14)), (14, (.ifCond .ne 21, 17)), (17, (.iconst 1, 18)), (18, (.goto 22, 21)), (21, (.iconst 0, 22)), (22, (.freturn, 23))]
def zc_M_kindHere : List (Nat × (Instr × Nat)) := [(0, (.aload 0, 1)), (1, (.sipush (316189), 4)), (4, (.invokevirtual 224418, 7)), (7, (.ifCond .eq 14, 10)), (10, (.iconst 0, 11)), (11, (.goto 100, 14)), (14, (.aload 0, 15)), (15, (.sipush (3294020), 18)), (18, (.invokevirtual 224418, 21)), (21, (.ifCond .eq 28, 24)), (24, (.iconst 1, 25)), (25, (.goto 100, 28)), (28, (.aload 0, 29)), (29, (.sipush (242939), 32)), (32, (.invokevirtual 224418, 35)), (35, (.ifCond .eq 42, 38)), (38, (.iconst 2, 39)), (39, (.goto 100, 42)), (42, (.aload 0, 43)), (43, (.sipush (92275), 46)), (46, (.invokevirtual 224418, 49)), (49, (.ifCond .eq 56, 52)), (52, (.iconst 3, 53)), (53, (.goto 100, 56)), (56, (.aload 0, 57)), (57, (.sipush (12387666), 60)), (60, (.invokevirtual 224418, 63)), (63, (.ifCond .eq 70, 66)), (66, (.iconst 4, 67)), (67, (.goto 100, 70)), (70, (.aload 0, 71)), (71, (.sipush (383153), 74)), (74, (.invokevirtual 224418, 77)), (77, (.ifCond .eq 84, 80)), (80, (.iconst 5, 81)), (81, (.goto 100, 84)), (84, (.aload 0, 85)), (85, (.sipush (9454493), 88)), (88, (.invokevirtual 224418, 91)), (91, (.ifCond .eq 99, 94)), (94, (.iconst 6, 96)), (96, (.goto 100, 99)), (99, (.iconst (-1), 100)), (100, (.ireturn, 101))]
def zc_M_numberHere : List (Nat × (Instr × Nat)) := [(0, (.aload 0, 1)), (1, (.getfield 2661, 4)), (4, (.l2i, 5)), (5, (.istore 3, 6)), (6, (.aload 0, 7)), (7, (.getfield 2652, 10)), (10, (.iconst 2, 11)), (11, (.if_icmp .ne 28, 14)), (14, (.aload 0, 15)), (15, (.getfield 2661, 18)), (18, (.iload 1, 19)), (19, (.i2l, 20)), (20, (.iload 2, 21)), (21, (.i2l, 22)), (22, (.invokestatic 144387, 25)), (25, (.ifCond .ne 34, 28)), (28, (.aload 0, 29)), (29, (.invokevirtual 223393, 32)), (32, (.iload 1, 33)), (33, (.ireturn, 34)), (34, (.aload 0, 35)), (35, (.invokevirtual 222369, 38)), (38, (.iload 3, 39)), (39, (.ireturn, 40))]
def zc_M_passHere : List (Nat × (Instr × Nat)) := [(0, (.aload 0, 1)), (1, (.getfield 2563, 4)), (4, (.iconst 1, 5)), (5, (.iaload, 6)), (6, (.iconst 14, 8)), (8, (.if_icmp .ne 16, 11)), (11, (.aload 0, 12)), (12, (.invokevirtual 223393, 15)), (15, (.return_, 16)), (16, (.aload 0, 17)), (17, (.invokevirtual 222369, 20)), (20, (.aload 0, 21)), (21, (.iconst 0, 22)), (22, (.aload 0, 23)), (23, (.getfield 2563, 26)), (26, (.iconst 0, 27)), (27, (.iaload, 28)), (28, (.iconst 1, 29)), (29, (.isub, 30)), (30, (.invokevirtual 226467, 33)), (33, (.istore 2, 34)), (34, (.aload 0, 35)), (35, (.getfield 2664, 38)), (38, (.ifCond .lt 42, 41)), (41, (.return_, 42)), (42, (.aload 0, 43)), (43, (.getfield 2652, 46)), (46, (.iconst 2, 47)), (47, (.if_icmp .ne 65, 50)), (50, (.aload 0, 51)), (51, (.getfield 2661, 54)), (54, (.iload 2, 55)), (55, (.i2l, 56)), (56, (.lcmp, 57)), (57, (.ifCond .ne 65, 60)), (60, (.aload 0, 61)), (61, (.invokevirtual 223393, 64)), (64, (.return_, 65)), (65, (.aload 0, 66)), (66, (.iconst 0, 67)), (67, (.aload 0, 68)), (68, (.getfield 2563, 71)), (71, (.iconst 0, 72)), (72, (.iaload, 73)), (73, (.iconst 1, 74)), (74, (.isub, 75)), (75, (.invokevirtual 226467, 78)), (78, (.istore 3, 79)), (79, (.aload 0, 80)), (80, (.getfield 2664, 83)), (83, (.ifCond .ge 95, 86)), (86, (.aload 0, 87)), (87, (.iload 1, 88)), (88, (.iload 2, 89)), (89, (.iload 3, 90)), (90, (.invokevirtual 157860, 93)), (93, (.istore 4, 95)), (95, (.return_, 96))]
def zc_M_peaHere : List (Nat × (Instr × Nat)) := [(0, (.aload 0, 1)), (1, (.invokevirtual 222369, 4)), (4, (.aload 0, 5)), (5, (.sipush (158575), 8)), (8, (.invokevirtual 224418, 11)), (11, (.ifCond .eq 26, 14)), (14, (.aload 0, 15)), (15, (.getfield 2563, 18)), (18, (.iconst 2, 19)), (19, (.iconst (-1), 20)), (20, (.iastore, 21)), (21, (.aload 0, 22)), (22, (.invokevirtual 222369, 25)), (25, (.return_, 26)), (26, (.aload 0, 27)), (27, (.iconst 0, 28)), (28, (.aload 0, 29)), (29, (.getfield 2563, 32)), (32, (.iconst 0, 33)), (33, (.iaload, 34)), (34, (.iconst 1, 35)), (35, (.isub, 36)), (36, (.invokevirtual 226467, 39)), (39, (.istore 1, 40)), (40, (.aload 0, 41)), (41, (.getfield 2563, 44)), (44, (.iconst 2, 45)), (45, (.aload 0, 46)), (46, (.getfield 2664, 49)), (49, (.ifCond .ge 56, 52)), (52, (.iload 1, 53)), (53, (.goto 62, 56)), (56, (.aload 0, 57)), (57, (.getfield 2563, 60)), (60, (.iconst 2, 61)), (61, (.iaload, 62)), (62, (.iastore, 63)), (63, (.return_, 64))]
def zc_M_eyeHere : List (Nat × (Instr × Nat)) := [(0, (.aload 0, 1)), (1, (.invokevirtual 222369, 4)), (4, (.aload 0, 5)), (5, (.iconst 0, 6)), (6, (.iconst 3, 7)), (7, (.invokevirtual 226467, 10)), (10, (.istore 1, 11)), (11, (.aload 0, 12)), (12, (.getfield 2664, 15)), (15, (.ifCond .lt 19, 18)), (18, (.return_, 19)), (19, (.aload 0, 20)), (20, (.sipush (382984), 23)), (23, (.invokevirtual 224418, 26)), (26, (.ifCond .ne 34, 29)), (29, (.aload 0, 30)), (30, (.invokevirtual 223393, 33)), (33, (.return_, 34)), (34, (.aload 0, 35)), (35, (.invokevirtual 222369, 38)), (38, (.aload 0, 39)), (39, (.iconst 0, 40)), (40, (.iconst 10, 42)), (42, (.invokevirtual 226467, 45)), (45, (.istore 2, 46)), (46, (.aload 0, 47)), (47, (.getfield 2563, 50)), (50, (.iconst 47, 52)), (52, (.iconst 2, 53)), (53, (.iload 1, 54)), (54, (.imul, 55)), (55, (.iadd, 56)), (56, (.aload 0, 57)), (57, (.getfield 2664, 60)), (60, (.ifCond .ge 67, 63)), (63, (.iload 2, 64)), (64, (.goto 78, 67)), (67, (.aload 0, 68)), (68, (.getfield 2563, 71)), (71, (.iconst 47, 73)), (73, (.iconst 2, 74)), (74, (.iload 1, 75)), (75, (.imul, 76)), (76, (.iadd, 77)), (77, (.iaload, 78)), (78, (.iastore, 79)), (79, (.return_, 80))]
def zc_M_playerHere : List (Nat × (Instr × Nat)) := [(0, (.aload 0, 1)), (1, (.invokevirtual 222369, 4)), (4, (.aload 0, 5)), (5, (.iconst 0, 6)), (6, (.iconst 3, 7)), (7, (.invokevirtual 226467, 10)), (10, (.istore 1, 11)), (11, (.iconst 0, 12)), (12, (.istore 2, 13)), (13, (.iload 2, 14)), (14, (.iconst 3, 15)), (15, (.if_icmp .ge 131, 18)), (18, (.aload 0, 19)), (19, (.getfield 2664, 22)), (22, (.ifCond .ge 131, 25)), (25, (.iload 2, 26)), (26, (.ifCond .ne 39, 29)), (29, (.aload 0, 30)), (30, (.sipush (8930039), 33)), (33, (.invokevirtual 224418, 36)), (36, (.goto 61, 39)), (39, (.iload 2, 40)), (40, (.iconst 1, 41)), (41, (.if_icmp .ne 54, 44)), (44, (.aload 0, 45)), (45, (.sipush (10492070), 48)), (48, (.invokevirtual 224418, 51)), (51, (.goto 61, 54)), (54, (.aload 0, 55)), (55, (.sipush (1162531), 58)), (58, (.invokevirtual 224418, 61)), (61, (.istore 3, 62)), (62, (.iload 3, 63)), (63, (.ifCond .ne 69, 66)), (66, (.goto 125, 69)), (69, (.aload 0, 70)), (70, (.invokevirtual 222369, 73)), (73, (.aload 0, 74)), (74, (.iload 2, 75)), (75, (.ifCond .ne 82, 78)), (78, (.iconst 0, 79)), (79, (.goto 83, 82)), (82, (.iconst 1, 83)), (83, (.iload 2, 84)), (84, (.ifCond .ne 93, 87)), (87, (.iconst 9999, 90)), (90, (.goto 105, 93)), (93, (.iload 2, 94)), (94, (.iconst 1, 95)), (95, (.if_icmp .ne 103, 98)), (98, (.iconst 99, 100)), (100, (.goto 105, 103)), (103, (.iconst 9, 105)), (105, (.invokevirtual 226467, 108)), (108, (.istore 4, 110)), (110, (.aload 0, 111)), (111, (.getfield 2664, 114)), (114, (.ifCond .ge 125, 117)), (117, (.aload 0, 118)), (118, (.iload 1, 119)), (119, (.iload 2, 120)), (120, (.iload 4, 122)), (122, (.invokevirtual 200868, 125)), (125, (.iinc 2 1, 128)), (128, (.goto 13, 131)), (131, (.return_, 132))]
def zc_M_item : List (Nat × (Instr × Nat)) := [(0, (.aload 0, 1)), (1, (.invokevirtual 225441, 4)), (4, (.istore 1, 5)), (5, (.iload 1, 6)), (6, (.ifCond .lt 17, 9)), (9, (.aload 0, 10)), (10, (.iload 1, 11)), (11, (.invokevirtual 227490, 14)), (14, (.goto 72, 17)), (17, (.aload 0, 18)), (18, (.sipush (11800), 21)), (21, (.invokevirtual 224418, 24)), (24, (.ifCond .eq 34, 27)), (27, (.aload 0, 28)), (28, (.invokevirtual 228513, 31)), (31, (.goto 72, 34)), (34, (.aload 0, 35)), (35, (.sipush (4325), 38)), (38, (.invokevirtual 224418, 41)), (41, (.ifCond .eq 51, 44)), (44, (.aload 0, 45)), (45, (.invokevirtual 229537, 48)), (48, (.goto 72, 51)), (51, (.aload 0, 52)), (52, (.sipush (235997865), 55)), (55, (.invokevirtual 224418, 58)), (58, (.ifCond .eq 68, 61)), (61, (.aload 0, 62)), (62, (.invokevirtual 230561, 65)), (65, (.goto 72, 68)), (68, (.aload 0, 69)), (69, (.invokevirtual 223393, 72)), (72, (.return_, 73))]
def zc_M_items : List (Nat × (Instr × Nat)) := [(0, (.aload 0, 1)), (1, (.iconst 0, 2)), (2, (.putfield 2648, 5)), (5, (.aload 0, 6)), (6, (.iconst (-1), 7)), (7, (.putfield 2664, 10)), (10, (.aload 0, 11)), (11, (.invokevirtual 222369, 14)), (14, (.aload 0, 15)), (15, (.invokevirtual 231585, 18)), (18, (.iconst 1, 19)), (19, (.istore 1, 20)), (20, (.aload 0, 21)), (21, (.getfield 2664, 24)), (24, (.ifCond .ge 49, 27)), (27, (.aload 0, 28)), (28, (.getfield 2652, 31)), (31, (.iconst 3, 32)), (32, (.if_icmp .ne 49, 35)), (35, (.aload 0, 36)), (36, (.invokevirtual 222369, 39)), (39, (.aload 0, 40)), (40, (.invokevirtual 231585, 43)), (43, (.iinc 1 1, 46)), (46, (.goto 20, 49)), (49, (.aload 0, 50)), (50, (.getfield 2664, 53)), (53, (.ifCond .ge 67, 56)), (56, (.aload 0, 57)), (57, (.getfield 2652, 60)), (60, (.ifCond .eq 67, 63)), (63, (.aload 0, 64)), (64, (.invokevirtual 223393, 67)), (67, (.iload 1, 68)), (68, (.ireturn, 69))]
def zc_M_text : List (Nat × (Instr × Nat)) := [(0, (.aload 0, 1)), (1, (.getfield 2563, 4)), (4, (.aload 0, 5)), (5, (.getfield 2567, 8)), (8, (.invokestatic 145410, 11)), (11, (.aload 0, 12)), (12, (.invokevirtual 232609, 15)), (15, (.istore 1, 16)), (16, (.aload 0, 17)), (17, (.iconst 0, 18)), (18, (.putfield 2584, 21)), (21, (.aload 0, 22)), (22, (.getfield 2664, 25)), (25, (.ifCond .lt 46, 28)), (28, (.aload 0, 29)), (29, (.getfield 2567, 32)), (32, (.aload 0, 33)), (33, (.getfield 2563, 36)), (36, (.invokestatic 145410, 39)), (39, (.iconst (-1), 40)), (40, (.aload 0, 41)), (41, (.getfield 2664, 44)), (44, (.isub, 45)), (45, (.ireturn, 46)), (46, (.iload 1, 47)), (47, (.ireturn, 48))]
def zc_M_hold : List (Nat × (Instr × Nat)) := [(0, (.iload 1, 1)), (1, (.i2l, 2)), (2, (.sipush 0, 3)), (3, (.sipush (9), 6)), (6, (.invokestatic 144387, 9)), (9, (.ifCond .eq 32, 12)), (12, (.iload 2, 13)), (13, (.i2l, 14)), (14, (.sipush (-1), 17)), (17, (.aload 0, 18)), (18, (.getfield 2563, 21)), (21, (.iconst 1, 22)), (22, (.iaload, 23)), (23, (.iconst 1, 24)), (24, (.isub, 25)), (25, (.i2l, 26)), (26, (.invokestatic 144387, 29)), (29, (.ifCond .ne 38, 32)), (32, (.aload 0, 33)), (33, (.iconst 0, 34)), (34, (.invokevirtual 143522, 37)), (37, (.ireturn, 38)), (38, (.aload 0, 39)), (39, (.getfield 2563, 42)), (42, (.iconst 71, 44)), (44, (.iload 1, 45)), (45, (.iadd, 46)), (46, (.iload 2, 47)), (47, (.iconst 1, 48)), (48, (.iadd, 49)), (49, (.iastore, 50)), (50, (.iconst 1, 51)), (51, (.ireturn, 52))]
def zc_M_above : List (Nat × (Instr × Nat)) := [(0, (.iload 0, 1)), (1, (.iconst 3, 2)), (2, (.if_icmp .ne 9, 5)), (5, (.iconst 2, 6)), (6, (.goto 29, 9)), (9, (.iload 0, 10)), (10, (.iconst 4, 11)), (11, (.if_icmp .ne 18, 14)), (14, (.iconst 1, 15)), (15, (.goto 29, 18)), (18, (.iload 0, 19)), (19, (.iconst 6, 21)), (21, (.if_icmp .ne 28, 24)), (24, (.iconst 5, 25)), (25, (.goto 29, 28)), (28, (.iconst 0, 29)), (29, (.ireturn, 30))]
def zc_M_as : List (Nat × (Instr × Nat)) := [(0, (.iload 1, 1)), (1, (.i2l, 2)), (2, (.sipush 0, 3)), (3, (.sipush (9), 6)), (6, (.invokestatic 144387, 9)), (9, (.ifCond .eq 24, 12)), (12, (.iload 2, 13)), (13, (.i2l, 14)), (14, (.sipush 0, 15)), (15, (.sipush (6), 18)), (18, (.invokestatic 144387, 21)), (21, (.ifCond .ne 30, 24)), (24, (.aload 0, 25)), (25, (.iconst 0, 26)), (26, (.invokevirtual 143522, 29)), (29, (.ireturn, 30)), (30, (.aload 0, 31)), (31, (.getfield 2563, 34)), (34, (.iconst 71, 36)), (36, (.iload 1, 37)), (37, (.iadd, 38)), (38, (.iaload, 39)), (39, (.iconst 1, 40)), (40, (.isub, 41)), (41, (.istore 3, 42)), (42, (.aload 0, 43)), (43, (.iload 3, 44)), (44, (.invokevirtual 147618, 47)), (47, (.ifCond .ne 56, 50)), (50, (.aload 0, 51)), (51, (.iconst 5, 52)), (52, (.invokevirtual 143522, 55)), (55, (.ireturn, 56)), (56, (.aload 0, 57)), (57, (.iload 3, 58)), (58, (.iconst 0, 59)), (59, (.invokevirtual 149667, 62)), (62, (.istore 4, 64)), (64, (.iload 2, 65)), (65, (.ifCond .eq 83, 68)), (68, (.iload 2, 69)), (69, (.iload 4, 71)), (71, (.if_icmp .eq 83, 74)), (74, (.iload 2, 75)), (75, (.iload 4, 77)), (77, (.invokestatic 235521, 80)), (80, (.if_icmp .ne 87, 83)), (83, (.iload 3, 84)), (84, (.goto 92, 87)), (87, (.aload 0, 88)), (88, (.iconst 2, 89)), (89, (.invokevirtual 143522, 92)), (92, (.ireturn, 93))]
def zc_M_isSheet : List (Nat × (Instr × Nat)) := [(0, (.iload 0, 1)), (1, (.i2l, 2)), (2, (.sipush 0, 3)), (3, (.sipush (3), 6)), (6, (.invokestatic 144387, 9)), (9, (.freturn, 10))]
def zc_M_sheet : List (Nat × (Instr × Nat)) := [(0, (.iload 1, 1)), (1, (.invokestatic 237569, 4)), (4, (.ifCond .eq 29, 7)), (7, (.iload 2, 8)), (8, (.ifCond .eq 35, 11)), (11, (.iload 2, 12)), (12, (.iconst 8, 14)), (14, (.if_icmp .eq 35, 17)), (17, (.iload 2, 18)), (18, (.iconst 16, 20)), (20, (.if_icmp .eq 35, 23)), (23, (.iload 2, 24)), (24, (.iconst 32, 26)), (26, (.if_icmp .eq 35, 29)), (29, (.aload 0, 30)), (30, (.iconst 0, 31)), (31, (.invokevirtual 143522, 34)), (34, (.ireturn, 35)), (35, (.iload 3, 36)), (36, (.ifCond .ge 46, 39)), (39, (.aload 0, 40)), (40, (.iconst 6, 42)), (42, (.invokevirtual 143522, 45)), (45, (.ireturn, 46)), (46, (.iload 3, 47)), (47, (.iconst 40, 49)), (49, (.if_icmp .le 58, 52)), (52, (.aload 0, 53)), (53, (.iconst 0, 54)), (54, (.invokevirtual 143522, 57)), (57, (.ireturn, 58)), (58, (.aload 0, 59)), (59, (.getfield 2671, 62)), (62, (.iload 1, 63)), (63, (.iload 2, 64)), (64, (.iastore, 65)), (65, (.aload 0, 66)), (66, (.getfield 2675, 69)), (69, (.iload 1, 70)), (70, (.iload 2, 71)), (71, (.ifCond .ne 78, 74)), (74, (.iconst 0, 75)), (75, (.goto 79, 78)), (78, (.iload 3, 79)), (79, (.iastore, 80)), (80, (.iconst 0, 81)), (81, (.istore 4, 83)), (83, (.iload 4, 85)), (85, (.iconst 40, 87)), (87, (.if_icmp .ge 109, 90)), (90, (.aload 0, 91)), (91, (.getfield 2679, 94)), (94, (.iconst 40, 96)), (96, (.iload 1, 97)), (97, (.imul, 98)), (98, (.iload 4, 100)), (100, (.iadd, 101)), (101, (.iconst 0, 102)), (102, (.iastore, 103)), (103, (.iinc 4 1, 106)), (106, (.goto 83, 109)), (109, (.aload 0, 110)), (110, (.getfield 2675, 113)), (113, (.iload 1, 114)), (114, (.iaload, 115)), (115, (.ireturn, 116))]
def zc_M_whyNone : List (Nat × (Instr × Nat)) := [(0, (.iload 1, 1)), (1, (.invokestatic 237569, 4)), (4, (.ifCond .ne 11, 7)), (7, (.iconst 0, 8)), (8, (.goto 25, 11)), (11, (.aload 0, 12)), (12, (.getfield 2671, 15)), (15, (.iload 1, 16)), (16, (.iaload, 17)), (17, (.ifCond .ne 24, 20)), (20, (.iconst 5, 21)), (21, (.goto 25, 24)), (24, (.iconst (-1), 25)), (25, (.ireturn, 26))]
def zc_M_write : List (Nat × (Instr × Nat)) := [(0, (.aload 0, 1)), (1, (.iload 1, 2)), (2, (.invokevirtual 239778, 5)), (5, (.istore 4, 7)), (7, (.iload 4, 9)), (9, (.ifCond .ge 34, 12)), (12, (.iload 2, 13)), (13, (.i2l, 14)), (14, (.sipush 0, 15)), (15, (.aload 0, 16)), (16, (.getfield 2675, 19)), (19, (.iload 1, 20)), (20, (.iaload, 21)), (21, (.iconst 1, 22)), (22, (.isub, 23)), (23, (.i2l, 24)), (24, (.invokestatic 144387, 27)), (27, (.ifCond .ne 34, 30)), (30, (.iconst 0, 31)), (31, (.goto 36, 34)), (34, (.iload 4, 36)), (36, (.istore 4, 38)), (38, (.iload 4, 40)), (40, (.ifCond .lt 50, 43)), (43, (.aload 0, 44)), (44, (.iload 4, 46)), (46, (.invokevirtual 143522, 49)), (49, (.ireturn, 50)), (50, (.aload 0, 51)), (51, (.getfield 2679, 54)), (54, (.iconst 40, 56)), (56, (.iload 1, 57)), (57, (.imul, 58)), (58, (.iload 2, 59)), (59, (.iadd, 60)), (60, (.aload 0, 61)), (61, (.getfield 2671, 64)), (64, (.iload 1, 65)), (65, (.iaload, 66)), (66, (.iconst 8, 68)), (68, (.if_icmp .ne 76, 71)), (71, (.iload 3, 72)), (72, (.i2b, 73)), (73, (.goto 93, 76)), (76, (.aload 0, 77)), (77, (.getfield 2671, 80)), (80, (.iload 1, 81)), (81, (.iaload, 82)), (82, (.iconst 16, 84)), (84, (.if_icmp .ne 92, 87)), (87, (.iload 3, 88)), (88, (.i2s, 89)), (89, (.goto 93, 92)), (92, (.iload 3, 93)), (93, (.iastore, 94)), (94, (.iconst 1, 95)), (95, (.ireturn, 96))]
def zc_M_copy : List (Nat × (Instr × Nat)) := [(0, (.iload 1, 1)), (1, (.invokestatic 237569, 4)), (4, (.ifCond .eq 14, 7)), (7, (.iload 3, 8)), (8, (.invokestatic 237569, 11)), (11, (.ifCond .ne 20, 14)), (14, (.aload 0, 15)), (15, (.iconst 0, 16)), (16, (.invokevirtual 143522, 19)), (19, (.ireturn, 20)), (20, (.aload 0, 21)), (21, (.getfield 2671, 24)), (24, (.iload 1, 25)), (25, (.iaload, 26)), (26, (.ifCond .eq 38, 29)), (29, (.aload 0, 30)), (30, (.getfield 2671, 33)), (33, (.iload 3, 34)), (34, (.iaload, 35)), (35, (.ifCond .ne 44, 38)), (38, (.aload 0, 39)), (39, (.iconst 5, 40)), (40, (.invokevirtual 143522, 43)), (43, (.ireturn, 44)), (44, (.aload 0, 45)), (45, (.getfield 2671, 48)), (48, (.iload 1, 49)), (49, (.iaload, 50)), (50, (.aload 0, 51)), (51, (.getfield 2671, 54)), (54, (.iload 3, 55)), (55, (.iaload, 56)), (56, (.if_icmp .eq 65, 59)), (59, (.aload 0, 60)), (60, (.iconst 2, 61)), (61, (.invokevirtual 143522, 64)), (64, (.ireturn, 65)), (65, (.iload 2, 66)), (66, (.ifCond .lt 114, 69)), (69, (.iload 4, 71)), (71, (.ifCond .lt 114, 74)), (74, (.iload 5, 76)), (76, (.ifCond .lt 114, 79)), (79, (.iload 2, 80)), (80, (.i2l, 81)), (81, (.iload 5, 83)), (83, (.i2l, 84)), (84, (.ladd, 85)), (85, (.aload 0, 86)), (86, (.getfield 2675, 89)), (89, (.iload 1, 90)), (90, (.iaload, 91)), (91, (.i2l, 92)), (92, (.lcmp, 93)), (93, (.ifCond .gt 114, 96)), (96, (.iload 4, 98)), (98, (.i2l, 99)), (99, (.iload 5, 101)), (101, (.i2l, 102)), (102, (.ladd, 103)), (103, (.aload 0, 104)), (104, (.getfield 2675, 107)), (107, (.iload 3, 108)), (108, (.iaload, 109)), (109, (.i2l, 110)), (110, (.lcmp, 111)), (111, (.ifCond .le 120, 114)), (114, (.aload 0, 115)), (115, (.iconst 0, 116)), (116, (.invokevirtual 143522, 119)), (119, (.ireturn, 120)), (120, (.iconst 0, 121)), (121, (.istore 6, 123)), (123, (.iload 6, 125)), (125, (.iload 5, 127)), (127, (.if_icmp .ge 157, 130)), (130, (.aload 0, 131)), (131, (.getfield 2683, 134)), (134, (.iload 6, 136)), (136, (.aload 0, 137)), (137, (.getfield 2679, 140)), (140, (.iconst 40, 142)), (142, (.iload 1, 143)), (143, (.imul, 144)), (144, (.iload 2, 145)), (145, (.iadd, 146)), (146, (.iload 6, 148)), (148, (.iadd, 149)), (149, (.iaload, 150)), (150, (.iastore, 151)), (151, (.iinc 6 1, 154)), (154, (.goto 123, 157)), (157, (.iconst 0, 158)), (158, (.istore 6, 160)), (160, (.iload 6, 162)), (162, (.iload 5, 164)), (164, (.if_icmp .ge 195, 167)), (167, (.aload 0, 168)), (168, (.getfield 2679, 171)), (171, (.iconst 40, 173)), (173, (.iload 3, 174)), (174, (.imul, 175)), (175, (.iload 4, 177)), (177, (.iadd, 178)), (178, (.iload 6, 180)), (180, (.iadd, 181)), (181, (.aload 0, 182)), (182, (.getfield 2683, 185)), (185, (.iload 6, 187)), (187, (.iaload, 188)), (188, (.iastore, 189)), (189, (.iinc 6 1, 192)), (192, (.goto 160, 195)), (195, (.iload 5, 197)), (197, (.ireturn, 198))]
def zc_M_load : List (Nat × (Instr × Nat)) := [(0, (.aload 0, 1)), (1, (.iload 1, 2)), (2, (.invokevirtual 239778, 5)), (5, (.istore 2, 6)), (6, (.iload 2, 7)), (7, (.ifCond .lt 16, 10)), (10, (.aload 0, 11)), (11, (.iload 2, 12)), (12, (.invokevirtual 143522, 15)), (15, (.ireturn, 16)), (16, (.iconst 0, 17)), (17, (.istore 3, 18)), (18, (.iload 3, 19)), (19, (.aload 0, 20)), (20, (.getfield 2675, 23)), (23, (.iload 1, 24)), (24, (.iaload, 25)), (25, (.if_icmp .ge 87, 28)), (28, (.iload 3, 29)), (29, (.aload 0, 30)), (30, (.getfield 2563, 33)), (33, (.iconst 1, 34)), (34, (.iaload, 35)), (35, (.if_icmp .ge 87, 38)), (38, (.aload 0, 39)), (39, (.getfield 2679, 42)), (42, (.iconst 40, 44)), (44, (.iload 1, 45)), (45, (.imul, 46)), (46, (.iload 3, 47)), (47, (.iadd, 48)), (48, (.iaload, 49)), (49, (.i2l, 50)), (50, (.sipush 0, 51)), (51, (.sipush (6), 54)), (54, (.invokestatic 144387, 57)), (57, (.ifCond .eq 87, 60)), (60, (.aload 0, 61)), (61, (.getfield 2563, 64)), (64, (.iconst 5, 65)), (65, (.iconst 3, 66)), (66, (.iload 3, 67)), (67, (.imul, 68)), (68, (.iadd, 69)), (69, (.aload 0, 70)), (70, (.getfield 2679, 73)), (73, (.iconst 40, 75)), (75, (.iload 1, 76)), (76, (.imul, 77)), (77, (.iload 3, 78)), (78, (.iadd, 79)), (79, (.iaload, 80)), (80, (.iastore, 81)), (81, (.iinc 3 1, 84)), (84, (.goto 18, 87)), (87, (.iload 3, 88)), (88, (.ireturn, 89))]
def zc_M_judge : List (Nat × (Instr × Nat)) := [(0, (.aload 0, 1)), (1, (.iload 1, 2)), (2, (.invokevirtual 239778, 5)), (5, (.istore 2, 6)), (6, (.iload 2, 7)), (7, (.ifCond .lt 16, 10)), (10, (.aload 0, 11)), (11, (.iload 2, 12)), (12, (.invokevirtual 143522, 15)), (15, (.ireturn, 16)), (16, (.iconst 0, 17)), (17, (.istore 3, 18)), (18, (.iload 3, 19)), (19, (.aload 0, 20)), (20, (.getfield 2675, 23)), (23, (.iload 1, 24)), (24, (.iaload, 25)), (25, (.if_icmp .ge 67, 28)), (28, (.iload 3, 29)), (29, (.aload 0, 30)), (30, (.getfield 2563, 33)), (33, (.iconst 1, 34)), (34, (.iaload, 35)), (35, (.if_icmp .gt 67, 38)), (38, (.aload 0, 39)), (39, (.getfield 2679, 42)), (42, (.iconst 40, 44)), (44, (.iload 1, 45)), (45, (.imul, 46)), (46, (.iload 3, 47)), (47, (.iadd, 48)), (48, (.iaload, 49)), (49, (.aload 0, 50)), (50, (.iload 3, 51)), (51, (.invokevirtual 162978, 54)), (54, (.if_icmp .eq 61, 57)), (57, (.iconst 1, 58)), (58, (.iload 3, 59)), (59, (.iadd, 60)), (60, (.ireturn, 61)), (61, (.iinc 3 1, 64)), (64, (.goto 18, 67)), (67, (.iconst 0, 68)), (68, (.ireturn, 69))]
def zc_M_image : List (Nat × (Instr × Nat)) := [(0, (.aload 0, 1)), (1, (.getfield 2563, 4)), (4, (.aload 0, 5)), (5, (.getfield 2571, 8)), (8, (.invokestatic 145410, 11)), (11, (.aload 0, 12)), (12, (.iconst 1, 13)), (13, (.putfield 2574, 16)), (16, (.iconst 1, 17)), (17, (.ireturn, 18))]
def zc_M_undo : List (Nat × (Instr × Nat)) := [(0, (.aload 0, 1)), (1, (.getfield 2574, 4)), (4, (.ifCond .ne 13, 7)), (7, (.aload 0, 8)), (8, (.iconst 3, 9)), (9, (.invokevirtual 143522, 12)), (12, (.ireturn, 13)), (13, (.aload 0, 14)), (14, (.getfield 2571, 17)), (17, (.aload 0, 18)), (18, (.getfield 2563, 21)), (21, (.invokestatic 145410, 24)), (24, (.aload 0, 25)), (25, (.getfield 2563, 28)), (28, (.iconst 1, 29)), (29, (.iaload, 30)), (30, (.ireturn, 31))]
def zc_M_tear : List (Nat × (Instr × Nat)) := [(0, (.aload 0, 1)), (1, (.getfield 2574, 4)), (4, (.ifCond .eq 11, 7)), (7, (.iconst 1, 8)), (8, (.goto 12, 11)), (11, (.iconst 0, 12)), (12, (.istore 1, 13)), (13, (.aload 0, 14)), (14, (.iconst 0, 15)), (15, (.putfield 2574, 18)), (18, (.iload 1, 19)), (19, (.ireturn, 20))]
def zc_M_sumOf : List (Nat × (Instr × Nat)) := [(0, (.iconst 0, 1)), (1, (.istore 3, 2)), (2, (.iconst 0, 3)), (3, (.istore 4, 5)), (5, (.iload 4, 7)), (7, (.iconst 4, 8)), (8, (.if_icmp .ge 31, 11)), (11, (.iload 3, 12)), (12, (.aload 0, 13)), (13, (.getfield 2563, 16)), (16, (.iload 1, 17)), (17, (.iload 2, 18)), (18, (.iload 4, 20)), (20, (.imul, 21)), (21, (.iadd, 22)), (22, (.iaload, 23)), (23, (.iadd, 24)), (24, (.istore 3, 25)), (25, (.iinc 4 1, 28)), (28, (.goto 5, 31)), (31, (.iload 3, 32)), (32, (.ireturn, 33))]
def zc_M_holding : List (Nat × (Instr × Nat)) := [(0, (.iconst 0, 1)), (1, (.istore 1, 2)), (2, (.iconst 0, 3)), (3, (.istore 2, 4)), (4, (.iload 2, 5)), (5, (.iconst 10, 7)), (7, (.if_icmp .ge 36, 10)), (10, (.iload 1, 11)), (11, (.aload 0, 12)), (12, (.getfield 2563, 15)), (15, (.iconst 71, 17)), (17, (.iload 2, 18)), (18, (.iadd, 19)), (19, (.iaload, 20)), (20, (.ifCond .le 27, 23)), (23, (.iconst 1, 24)), (24, (.goto 28, 27)), (27, (.iconst 0, 28)), (28, (.iadd, 29)), (29, (.istore 1, 30)), (30, (.iinc 2 1, 33)), (33, (.goto 4, 36)), (36, (.iload 1, 37)), (37, (.ireturn, 38))]
def zc_M_count : List (Nat × (Instr × Nat)) := [(0, (.iload 1, 1)), (1, (.tableswitch 103 (0) (7) #[48, 55, 62, 70, 78, 86, 91, 98], 48)), (48, (.aload 0, 49)), (49, (.getfield 2563, 52)), (52, (.iconst 1, 53)), (53, (.iaload, 54)), (54, (.ireturn, 55)), (55, (.aload 0, 56)), (56, (.getfield 2563, 59)), (59, (.iconst 0, 60)), (60, (.iaload, 61)), (61, (.ireturn, 62)), (62, (.aload 0, 63)), (63, (.iconst 55, 65)), (65, (.iconst 4, 66)), (66, (.invokevirtual 247971, 69)), (69, (.ireturn, 70)), (70, (.aload 0, 71)), (71, (.iconst 56, 73)), (73, (.iconst 4, 74)), (74, (.invokevirtual 247971, 77)), (77, (.ireturn, 78)), (78, (.aload 0, 79)), (79, (.iconst 47, 81)), (81, (.iconst 2, 82)), (82, (.invokevirtual 247971, 85)), (85, (.ireturn, 86)), (86, (.aload 0, 87)), (87, (.getfield 2584, 90)), (90, (.ireturn, 91)), (91, (.aload 0, 92)), (92, (.getfield 2563, 95)), (95, (.iconst 3, 96)), (96, (.iaload, 97)), (97, (.ireturn, 98)), (98, (.aload 0, 99)), (99, (.invokevirtual 248993, 102)), (102, (.ireturn, 103)), (103, (.aload 0, 104)), (104, (.iconst 0, 105)), (105, (.invokevirtual 143522, 108)), (108, (.ireturn, 109))]
def zc_M_status : List (Nat × (Instr × Nat)) := [(0, (.iload 1, 1)), (1, (.i2l, 2)), (2, (.sipush (-1), 5)), (5, (.sipush (6), 8)), (8, (.invokestatic 144387, 11)), (11, (.ifCond .ne 20, 14)), (14, (.aload 0, 15)), (15, (.iconst 0, 16)), (16, (.invokevirtual 143522, 19)), (19, (.ireturn, 20)), (20, (.iconst 0, 21)), (21, (.istore 2, 22)), (22, (.iconst 0, 23)), (23, (.istore 3, 24)), (24, (.iload 3, 25)), (25, (.iconst 7, 27)), (27, (.if_icmp .ge 45, 30)), (30, (.iload 2, 31)), (31, (.aload 0, 32)), (32, (.getfield 2579, 35)), (35, (.iload 3, 36)), (36, (.iaload, 37)), (37, (.iadd, 38)), (38, (.istore 2, 39)), (39, (.iinc 3 1, 42)), (42, (.goto 24, 45)), (45, (.iload 1, 46)), (46, (.ifCond .ge 53, 49)), (49, (.iload 2, 50)), (50, (.goto 59, 53)), (53, (.aload 0, 54)), (54, (.getfield 2579, 57)), (57, (.iload 1, 58)), (58, (.iaload, 59)), (59, (.ireturn, 60))]
def zcs_0 : List (List (Nat × (Instr × Nat))) := [zc_Eye_init, zc_Orders_init, zc_Orders_thatEnd, zc_Orders_goOn, zc_Orders_index, zc_Pass_init, zc_Pass_set, zc_Pass_third, zc_Pass_looksTo, zc_Pass_thingBehind, zc_Pass_whirled, zc_Pass_peaBehind, zc_Pass_slipOf, zc_Player_init, zc_Player_tells, zc_Player_become, zc_Player_become_, zc_Player_hasLeft, zc_Player_stakes, zc_Player_brings, zc_Player_isGone, zc_Player_raised, zc_Player_lowered, zc_Player_mostOf, zc_Player_winningFirst]
def zcs_1 : List (List (Nat × (Instr × Nat))) := [zc_Player_losingFirst, zc_Search_init, zc_Search_start, zc_Search_seek, zc_Search_choose, zc_Sheet_init, zc_Sheet_lay, zc_Sheet_put, zc_Sheet_has, zc_Sight_init, zc_Sight_follow, zc_Sight_see, zc_Sight_seenAt, zc_Sight_at, zc_Sight_likeliest, zc_Sight_likeliestWith, zc_Table_init, zc_Table_become, zc_Table_setCups, zc_Table_add, zc_Table_peaBehind, zc_Table_feintSets, zc_Table_peaWithFeints, zc_Table_playRound, zc_Table_whoLeft]
def zcs_2 : List (List (Nat × (Instr × Nat))) := [zc_Table_draw, zc_Table_sumOfPlayers, zc_Table_sumOfSlips, zc_Table_fullSpots, zc_Tape_init, zc_Tape_put, zc_Tape_readOnto, zc_Tape_readItem, zc_Tape_kindNamed, zc_Tape_nameOfKind, zc_Tape_readPass, zc_Tape_readPea, zc_Tape_readEye, zc_Tape_readPlayer, zc_Tape_nameOfOwn, zc_Tape_takeNumber, zc_Tape_isWord, zc_Tape_step, zc_Tape_sortAt, zc_X_init, zc_X_cups, zc_X_pea, zc_X_pass, zc_X_of, zc_X_change]
def zcs_3 : List (List (Nat × (Instr × Nat))) := [zc_X_back, zc_X_where, zc_X_goes, zc_X_moves, zc_X_eye, zc_X_weight, zc_X_guess, zc_X_right, zc_X_lost, zc_X_both, zc_X_may, zc_X_watch, zc_X_feint, zc_X_kindFor, zc_X_misled, zc_X_row, zc_X_feints, zc_X_surely, zc_X_rings, zc_X_orders, zc_X_player, zc_X_told, zc_X_round, zc_X_play, zc_X_best]
def zcs_4 : List (List (Nat × (Instr × Nat))) := [zc_X_should, zc_X_richest, zc_X_now, zc_X_shuffle, zc_X_seed, zc_X_feed, zc_X_wipe, zc_X_text, zc_X_hold, zc_X_as, zc_X_sheet, zc_X_write, zc_X_copy, zc_X_load, zc_X_judge, zc_X_image, zc_X_undo, zc_X_tear, zc_X_count, zc_X_status, zc_X_tell, zc_X_likeliest, zc_X_rightOf, zc_X_rightIf, zc_X_isPlace]
def zcs_5 : List (List (Nat × (Instr × Nat))) := [zc_X_isPlaceOrHand, zc_X_isPass, zc_X_isBehind, zc_X_isKind, zc_X_isEye, zc_X_isPlayer, zc_X_isRounds, zc_X_isSheet, zc_X_isBits, zc_X_within, zc_X_isUnder, zc_X_ringAt, zc_X_swapped, zc_X_next, zc_M_init, zc_M_finds, zc_M_in, zc_M_copies, zc_M_isPlace, zc_M_isPass, zc_M_isFour, zc_M_its, zc_M_third, zc_M_swapped, zc_M_cupBy]
def zcs_6 : List (List (Nat × (Instr × Nat))) := [zc_M_peaBy, zc_M_seen, zc_M_cups, zc_M_pea, zc_M_comes, zc_M_pass, zc_M_of, zc_M_change, zc_M_back, zc_M_peaBehind, zc_M_where, zc_M_goes, zc_M_moves, zc_M_slips, zc_M_beginsBy, zc_M_looksAt, zc_M_watches, zc_M_heaviest, zc_M_eye, zc_M_weight, zc_M_guessBehind, zc_M_guess, zc_M_rightNow, zc_M_rightOf, zc_M_right]
def zcs_7 : List (List (Nat × (Instr × Nat))) := [zc_M_lost, zc_M_both, zc_M_may, zc_M_watch, zc_M_rightAs, zc_M_feint, zc_M_kindFor, zc_M_layPairs, zc_M_pairOf, zc_M_findMisled, zc_M_whyMisled, zc_M_misled, zc_M_row, zc_M_findFeints, zc_M_isWhere, zc_M_feints, zc_M_surely, zc_M_power, zc_M_rings, zc_M_orders, zc_M_whose, zc_M_sets, zc_M_hasLeft, zc_M_player, zc_M_told]
def zcs_8 : List (List (Nat × (Instr × Nat))) := [zc_M_aRound, zc_M_round, zc_M_play, zc_M_tries, zc_M_bestOf, zc_M_best, zc_M_should, zc_M_richest, zc_M_now, zc_M_drawn, zc_M_shuffle, zc_M_seed, zc_M_feed, zc_M_wipe, zc_M_letter, zc_M_isDigit, zc_M_byteAt, zc_M_next, zc_M_wrongHere, zc_M_isWord, zc_M_kindHere, zc_M_numberHere, zc_M_passHere, zc_M_peaHere, zc_M_eyeHere]
def zcs_9 : List (List (Nat × (Instr × Nat))) := [zc_M_playerHere, zc_M_item, zc_M_items, zc_M_text, zc_M_hold, zc_M_above, zc_M_as, zc_M_isSheet, zc_M_sheet, zc_M_whyNone, zc_M_write, zc_M_copy, zc_M_load, zc_M_judge, zc_M_image, zc_M_undo, zc_M_tear, zc_M_sumOf, zc_M_holding, zc_M_count, zc_M_status]
def zcs : List (List (Nat × (Instr × Nat))) := zcs_0 ++ (zcs_1 ++ (zcs_2 ++ (zcs_3 ++ (zcs_4 ++ (zcs_5 ++ (zcs_6 ++ (zcs_7 ++ (zcs_8 ++ (zcs_9)))))))))
def zgoods (l : List zMt) (cs : List (List (Nat × (Instr × Nat)))) : Bool := (l.zip cs).all (fun q => q.2.all (zgood q.1.1 (zmode q.1) q.1.2.2.1))
theorem zgoods_0 : zgoods zM_0 zcs_0 = true := by decide +kernel
theorem zgoods_1 : zgoods zM_1 zcs_1 = true := by decide +kernel
theorem zgoods_2 : zgoods zM_2 zcs_2 = true := by decide +kernel
theorem zgoods_3 : zgoods zM_3 zcs_3 = true := by decide +kernel
theorem zgoods_4 : zgoods zM_4 zcs_4 = true := by decide +kernel
theorem zgoods_5 : zgoods zM_5 zcs_5 = true := by decide +kernel
theorem zgoods_6 : zgoods zM_6 zcs_6 = true := by decide +kernel
theorem zgoods_7 : zgoods zM_7 zcs_7 = true := by decide +kernel
theorem zgoods_8 : zgoods zM_8 zcs_8 = true := by decide +kernel
theorem zgoods_9 : zgoods zM_9 zcs_9 = true := by decide +kernel
end
section
/-! THE CODE of the law as small steps: written by program. -/
def zc_law_0 : List (Nat × (Instr × Nat)) := [(0, (.new 2315, 3)), (3, (.dup, 4)), (4, (.invokespecial 70801, 7)), (7, (.astore 1, 8)), (8, (.new 2591, 11)), (11, (.dup, 12)), (12, (.invokespecial 142497, 15)), (15, (.astore 2, 16)), (16, (.iconst 0, 17)), (17, (.istore 3, 18)), (18, (.iload 3, 19)), (19, (.aload 0, 20)), (20, (.arraylength, 21)), (21, (.iconst 6, 23)), (23, (.isub, 24)), (24, (.if_icmp .gt 1677, 27)), (27, (.aload 0, 28)), (28, (.iload 3, 29)), (29, (.iaload, 30)), (30, (.iconst 63, 32)), (32, (.iand, 33)), (33, (.tableswitch 1671 (0) (49) #[248, 271, 294, 337, 370, 403, 416, 439, 472, 485, 528, 572, 595, 619, 642, 675, 698, 721, 744, 777, 821, 874, 897, 930, 943, 966, 1009, 1042, 1075, 1108, 1141, 1174, 1197, 1220, 1243, 1266, 1299, 1312, 1325, 1358, 1391, 1434, 1477, 1540, 1563, 1586, 1599, 1612, 1625, 1648], 248)), (248, (.aload 1, 249)), (249, (.aload 0, 250)), (250, (.iload 3, 251)), (251, (.iconst 1, 252)), (252, (.iadd, 253)), (253, (.iaload, 254)), (254, (.invokevirtual 71826, 257)), (257, (.aload 2, 258)), (258, (.aload 0, 259)), (259, (.iload 3, 260)), (260, (.iconst 1, 261)), (261, (.iadd, 262)), (262, (.iaload, 263)), (263, (.invokevirtual 155810, 266)), (266, (.if_icmp .eq 1671, 269)), (269, (.iconst 0, 270)), (270, (.freturn, 271)), (271, (.aload 1, 272))]
theorem zlaw_0 : zc_law_0.all (zgood 11 1 code) = true := by decide +kernel
def zc_law_1 : List (Nat × (Instr × Nat)) := [(272, (.aload 0, 273)), (273, (.iload 3, 274)), (274, (.iconst 1, 275)), (275, (.iadd, 276)), (276, (.iaload, 277)), (277, (.invokevirtual 72850, 280)), (280, (.aload 2, 281)), (281, (.aload 0, 282)), (282, (.iload 3, 283)), (283, (.iconst 1, 284)), (284, (.iadd, 285)), (285, (.iaload, 286)), (286, (.invokevirtual 156834, 289)), (289, (.if_icmp .eq 1671, 292)), (292, (.iconst 0, 293)), (293, (.freturn, 294)), (294, (.aload 1, 295)), (295, (.aload 0, 296)), (296, (.iload 3, 297)), (297, (.iconst 1, 298)), (298, (.iadd, 299)), (299, (.iaload, 300)), (300, (.aload 0, 301)), (301, (.iload 3, 302)), (302, (.iconst 2, 303)), (303, (.iadd, 304)), (304, (.iaload, 305)), (305, (.aload 0, 306)), (306, (.iload 3, 307)), (307, (.iconst 3, 308)), (308, (.iadd, 309)), (309, (.iaload, 310)), (310, (.invokevirtual 73876, 313)), (313, (.aload 2, 314)), (314, (.aload 0, 315)), (315, (.iload 3, 316)), (316, (.iconst 1, 317)), (317, (.iadd, 318)), (318, (.iaload, 319)), (319, (.aload 0, 320))]
theorem zlaw_1 : zc_law_1.all (zgood 11 1 code) = true := by decide +kernel
def zc_law_2 : List (Nat × (Instr × Nat)) := [(320, (.iload 3, 321)), (321, (.iconst 2, 322)), (322, (.iadd, 323)), (323, (.iaload, 324)), (324, (.aload 0, 325)), (325, (.iload 3, 326)), (326, (.iconst 3, 327)), (327, (.iadd, 328)), (328, (.iaload, 329)), (329, (.invokevirtual 158884, 332)), (332, (.if_icmp .eq 1671, 335)), (335, (.iconst 0, 336)), (336, (.freturn, 337)), (337, (.aload 1, 338)), (338, (.aload 0, 339)), (339, (.iload 3, 340)), (340, (.iconst 1, 341)), (341, (.iadd, 342)), (342, (.iaload, 343)), (343, (.aload 0, 344)), (344, (.iload 3, 345)), (345, (.iconst 2, 346)), (346, (.iadd, 347)), (347, (.iaload, 348)), (348, (.invokevirtual 74899, 351)), (351, (.aload 2, 352)), (352, (.aload 0, 353)), (353, (.iload 3, 354)), (354, (.iconst 1, 355)), (355, (.iadd, 356)), (356, (.iaload, 357)), (357, (.aload 0, 358)), (358, (.iload 3, 359)), (359, (.iconst 2, 360)), (360, (.iadd, 361)), (361, (.iaload, 362)), (362, (.invokevirtual 159907, 365)), (365, (.if_icmp .eq 1671, 368)), (368, (.iconst 0, 369)), (369, (.freturn, 370))]
theorem zlaw_2 : zc_law_2.all (zgood 11 1 code) = true := by decide +kernel
def zc_law_3 : List (Nat × (Instr × Nat)) := [(370, (.aload 1, 371)), (371, (.aload 0, 372)), (372, (.iload 3, 373)), (373, (.iconst 1, 374)), (374, (.iadd, 375)), (375, (.iaload, 376)), (376, (.aload 0, 377)), (377, (.iload 3, 378)), (378, (.iconst 2, 379)), (379, (.iadd, 380)), (380, (.iaload, 381)), (381, (.invokevirtual 75923, 384)), (384, (.aload 2, 385)), (385, (.aload 0, 386)), (386, (.iload 3, 387)), (387, (.iconst 1, 388)), (388, (.iadd, 389)), (389, (.iaload, 390)), (390, (.aload 0, 391)), (391, (.iload 3, 392)), (392, (.iconst 2, 393)), (393, (.iadd, 394)), (394, (.iaload, 395)), (395, (.invokevirtual 160931, 398)), (398, (.if_icmp .eq 1671, 401)), (401, (.iconst 0, 402)), (402, (.freturn, 403)), (403, (.aload 1, 404)), (404, (.invokevirtual 76945, 407)), (407, (.aload 2, 408)), (408, (.invokevirtual 161953, 411)), (411, (.if_icmp .eq 1671, 414)), (414, (.iconst 0, 415)), (415, (.freturn, 416)), (416, (.aload 1, 417)), (417, (.aload 0, 418)), (418, (.iload 3, 419)), (419, (.iconst 1, 420)), (420, (.iadd, 421)), (421, (.iaload, 422))]
theorem zlaw_3 : zc_law_3.all (zgood 11 1 code) = true := by decide +kernel
def zc_law_4 : List (Nat × (Instr × Nat)) := [(422, (.invokevirtual 77970, 425)), (425, (.aload 2, 426)), (426, (.aload 0, 427)), (427, (.iload 3, 428)), (428, (.iconst 1, 429)), (429, (.iadd, 430)), (430, (.iaload, 431)), (431, (.invokevirtual 164002, 434)), (434, (.if_icmp .eq 1671, 437)), (437, (.iconst 0, 438)), (438, (.freturn, 439)), (439, (.aload 1, 440)), (440, (.aload 0, 441)), (441, (.iload 3, 442)), (442, (.iconst 1, 443)), (443, (.iadd, 444)), (444, (.iaload, 445)), (445, (.aload 0, 446)), (446, (.iload 3, 447)), (447, (.iconst 2, 448)), (448, (.iadd, 449)), (449, (.iaload, 450)), (450, (.invokevirtual 78995, 453)), (453, (.aload 2, 454)), (454, (.aload 0, 455)), (455, (.iload 3, 456)), (456, (.iconst 1, 457)), (457, (.iadd, 458)), (458, (.iaload, 459)), (459, (.aload 0, 460)), (460, (.iload 3, 461)), (461, (.iconst 2, 462)), (462, (.iadd, 463)), (463, (.iaload, 464)), (464, (.invokevirtual 165027, 467)), (467, (.if_icmp .eq 1671, 470)), (470, (.iconst 0, 471)), (471, (.freturn, 472)), (472, (.aload 1, 473)), (473, (.invokevirtual 80017, 476))]
theorem zlaw_4 : zc_law_4.all (zgood 11 1 code) = true := by decide +kernel
def zc_law_5 : List (Nat × (Instr × Nat)) := [(476, (.aload 2, 477)), (477, (.invokevirtual 166049, 480)), (480, (.if_icmp .eq 1671, 483)), (483, (.iconst 0, 484)), (484, (.freturn, 485)), (485, (.aload 1, 486)), (486, (.aload 0, 487)), (487, (.iload 3, 488)), (488, (.iconst 1, 489)), (489, (.iadd, 490)), (490, (.iaload, 491)), (491, (.aload 0, 492)), (492, (.iload 3, 493)), (493, (.iconst 2, 494)), (494, (.iadd, 495)), (495, (.iaload, 496)), (496, (.aload 0, 497)), (497, (.iload 3, 498)), (498, (.iconst 3, 499)), (499, (.iadd, 500)), (500, (.iaload, 501)), (501, (.invokevirtual 81044, 504)), (504, (.aload 2, 505)), (505, (.aload 0, 506)), (506, (.iload 3, 507)), (507, (.iconst 1, 508)), (508, (.iadd, 509)), (509, (.iaload, 510)), (510, (.aload 0, 511)), (511, (.iload 3, 512)), (512, (.iconst 2, 513)), (513, (.iadd, 514)), (514, (.iaload, 515)), (515, (.aload 0, 516)), (516, (.iload 3, 517)), (517, (.iconst 3, 518)), (518, (.iadd, 519)), (519, (.iaload, 520)), (520, (.invokevirtual 172196, 523)), (523, (.if_icmp .eq 1671, 526))]
theorem zlaw_5 : zc_law_5.all (zgood 11 1 code) = true := by decide +kernel
def zc_law_6 : List (Nat × (Instr × Nat)) := [(526, (.iconst 0, 527)), (527, (.freturn, 528)), (528, (.aload 1, 529)), (529, (.aload 0, 530)), (530, (.iload 3, 531)), (531, (.iconst 1, 532)), (532, (.iadd, 533)), (533, (.iaload, 534)), (534, (.aload 0, 535)), (535, (.iload 3, 536)), (536, (.iconst 2, 537)), (537, (.iadd, 538)), (538, (.iaload, 539)), (539, (.aload 0, 540)), (540, (.iload 3, 541)), (541, (.iconst 3, 542)), (542, (.iadd, 543)), (543, (.iaload, 544)), (544, (.invokevirtual 82068, 547)), (547, (.aload 2, 548)), (548, (.aload 0, 549)), (549, (.iload 3, 550)), (550, (.iconst 1, 551)), (551, (.iadd, 552)), (552, (.iaload, 553)), (553, (.aload 0, 554)), (554, (.iload 3, 555)), (555, (.iconst 2, 556)), (556, (.iadd, 557)), (557, (.iaload, 558)), (558, (.aload 0, 559)), (559, (.iload 3, 560)), (560, (.iconst 3, 561)), (561, (.iadd, 562)), (562, (.iaload, 563)), (563, (.invokevirtual 173220, 566)), (566, (.lcmp, 567)), (567, (.ifCond .eq 1671, 570)), (570, (.iconst 0, 571)), (571, (.freturn, 572))]
theorem zlaw_6 : zc_law_6.all (zgood 11 1 code) = true := by decide +kernel
def zc_law_7 : List (Nat × (Instr × Nat)) := [(572, (.aload 1, 573)), (573, (.aload 0, 574)), (574, (.iload 3, 575)), (575, (.iconst 1, 576)), (576, (.iadd, 577)), (577, (.iaload, 578)), (578, (.invokevirtual 83090, 581)), (581, (.aload 2, 582)), (582, (.aload 0, 583)), (583, (.iload 3, 584)), (584, (.iconst 1, 585)), (585, (.iadd, 586)), (586, (.iaload, 587)), (587, (.invokevirtual 175266, 590)), (590, (.if_icmp .eq 1671, 593)), (593, (.iconst 0, 594)), (594, (.freturn, 595)), (595, (.aload 1, 596)), (596, (.aload 0, 597)), (597, (.iload 3, 598)), (598, (.iconst 1, 599)), (599, (.iadd, 600)), (600, (.iaload, 601)), (601, (.invokevirtual 84114, 604)), (604, (.aload 2, 605)), (605, (.aload 0, 606)), (606, (.iload 3, 607)), (607, (.iconst 1, 608)), (608, (.iadd, 609)), (609, (.iaload, 610)), (610, (.invokevirtual 178338, 613)), (613, (.lcmp, 614)), (614, (.ifCond .eq 1671, 617)), (617, (.iconst 0, 618)), (618, (.freturn, 619)), (619, (.aload 1, 620)), (620, (.aload 0, 621)), (621, (.iload 3, 622)), (622, (.iconst 1, 623)), (623, (.iadd, 624))]
theorem zlaw_7 : zc_law_7.all (zgood 11 1 code) = true := by decide +kernel
def zc_law_8 : List (Nat × (Instr × Nat)) := [(624, (.iaload, 625)), (625, (.invokevirtual 85138, 628)), (628, (.aload 2, 629)), (629, (.aload 0, 630)), (630, (.iload 3, 631)), (631, (.iconst 1, 632)), (632, (.iadd, 633)), (633, (.iaload, 634)), (634, (.invokevirtual 179362, 637)), (637, (.if_icmp .eq 1671, 640)), (640, (.iconst 0, 641)), (641, (.freturn, 642)), (642, (.aload 1, 643)), (643, (.aload 0, 644)), (644, (.iload 3, 645)), (645, (.iconst 1, 646)), (646, (.iadd, 647)), (647, (.iaload, 648)), (648, (.aload 0, 649)), (649, (.iload 3, 650)), (650, (.iconst 2, 651)), (651, (.iadd, 652)), (652, (.iaload, 653)), (653, (.invokevirtual 86163, 656)), (656, (.aload 2, 657)), (657, (.aload 0, 658)), (658, (.iload 3, 659)), (659, (.iconst 1, 660)), (660, (.iadd, 661)), (661, (.iaload, 662)), (662, (.aload 0, 663)), (663, (.iload 3, 664)), (664, (.iconst 2, 665)), (665, (.iadd, 666)), (666, (.iaload, 667)), (667, (.invokevirtual 180387, 670)), (670, (.if_icmp .eq 1671, 673)), (673, (.iconst 0, 674)), (674, (.freturn, 675)), (675, (.aload 1, 676))]
theorem zlaw_8 : zc_law_8.all (zgood 11 1 code) = true := by decide +kernel
def zc_law_9 : List (Nat × (Instr × Nat)) := [(676, (.aload 0, 677)), (677, (.iload 3, 678)), (678, (.iconst 1, 679)), (679, (.iadd, 680)), (680, (.iaload, 681)), (681, (.invokevirtual 87186, 684)), (684, (.aload 2, 685)), (685, (.aload 0, 686)), (686, (.iload 3, 687)), (687, (.iconst 1, 688)), (688, (.iadd, 689)), (689, (.iaload, 690)), (690, (.invokevirtual 181410, 693)), (693, (.if_icmp .eq 1671, 696)), (696, (.iconst 0, 697)), (697, (.freturn, 698)), (698, (.aload 1, 699)), (699, (.aload 0, 700)), (700, (.iload 3, 701)), (701, (.iconst 1, 702)), (702, (.iadd, 703)), (703, (.iaload, 704)), (704, (.invokevirtual 88210, 707)), (707, (.aload 2, 708)), (708, (.aload 0, 709)), (709, (.iload 3, 710)), (710, (.iconst 1, 711)), (711, (.iadd, 712)), (712, (.iaload, 713)), (713, (.invokevirtual 182434, 716)), (716, (.if_icmp .eq 1671, 719)), (719, (.iconst 0, 720)), (720, (.freturn, 721)), (721, (.aload 1, 722)), (722, (.aload 0, 723)), (723, (.iload 3, 724)), (724, (.iconst 1, 725)), (725, (.iadd, 726)), (726, (.iaload, 727)), (727, (.invokevirtual 89234, 730))]
theorem zlaw_9 : zc_law_9.all (zgood 11 1 code) = true := by decide +kernel
def zc_law_10 : List (Nat × (Instr × Nat)) := [(730, (.aload 2, 731)), (731, (.aload 0, 732)), (732, (.iload 3, 733)), (733, (.iconst 1, 734)), (734, (.iadd, 735)), (735, (.iaload, 736)), (736, (.invokevirtual 184482, 739)), (739, (.if_icmp .eq 1671, 742)), (742, (.iconst 0, 743)), (743, (.freturn, 744)), (744, (.aload 1, 745)), (745, (.aload 0, 746)), (746, (.iload 3, 747)), (747, (.iconst 1, 748)), (748, (.iadd, 749)), (749, (.iaload, 750)), (750, (.aload 0, 751)), (751, (.iload 3, 752)), (752, (.iconst 2, 753)), (753, (.iadd, 754)), (754, (.iaload, 755)), (755, (.invokevirtual 90259, 758)), (758, (.aload 2, 759)), (759, (.aload 0, 760)), (760, (.iload 3, 761)), (761, (.iconst 1, 762)), (762, (.iadd, 763)), (763, (.iaload, 764)), (764, (.aload 0, 765)), (765, (.iload 3, 766)), (766, (.iconst 2, 767)), (767, (.iadd, 768)), (768, (.iaload, 769)), (769, (.invokevirtual 185507, 772)), (772, (.if_icmp .eq 1671, 775)), (775, (.iconst 0, 776)), (776, (.freturn, 777)), (777, (.aload 1, 778)), (778, (.aload 0, 779)), (779, (.iload 3, 780))]
theorem zlaw_10 : zc_law_10.all (zgood 11 1 code) = true := by decide +kernel
def zc_law_11 : List (Nat × (Instr × Nat)) := [(780, (.iconst 1, 781)), (781, (.iadd, 782)), (782, (.iaload, 783)), (783, (.aload 0, 784)), (784, (.iload 3, 785)), (785, (.iconst 2, 786)), (786, (.iadd, 787)), (787, (.iaload, 788)), (788, (.aload 0, 789)), (789, (.iload 3, 790)), (790, (.iconst 3, 791)), (791, (.iadd, 792)), (792, (.iaload, 793)), (793, (.invokevirtual 91284, 796)), (796, (.aload 2, 797)), (797, (.aload 0, 798)), (798, (.iload 3, 799)), (799, (.iconst 1, 800)), (800, (.iadd, 801)), (801, (.iaload, 802)), (802, (.aload 0, 803)), (803, (.iload 3, 804)), (804, (.iconst 2, 805)), (805, (.iadd, 806)), (806, (.iaload, 807)), (807, (.aload 0, 808)), (808, (.iload 3, 809)), (809, (.iconst 3, 810)), (810, (.iadd, 811)), (811, (.iaload, 812)), (812, (.invokevirtual 190628, 815)), (815, (.lcmp, 816)), (816, (.ifCond .eq 1671, 819)), (819, (.iconst 0, 820)), (820, (.freturn, 821)), (821, (.aload 1, 822)), (822, (.aload 0, 823)), (823, (.iload 3, 824)), (824, (.iconst 1, 825)), (825, (.iadd, 826))]
theorem zlaw_11 : zc_law_11.all (zgood 11 1 code) = true := by decide +kernel
def zc_law_12 : List (Nat × (Instr × Nat)) := [(826, (.iaload, 827)), (827, (.aload 0, 828)), (828, (.iload 3, 829)), (829, (.iconst 2, 830)), (830, (.iadd, 831)), (831, (.iaload, 832)), (832, (.aload 0, 833)), (833, (.iload 3, 834)), (834, (.iconst 3, 835)), (835, (.iadd, 836)), (836, (.iaload, 837)), (837, (.aload 0, 838)), (838, (.iload 3, 839)), (839, (.iconst 4, 840)), (840, (.iadd, 841)), (841, (.iaload, 842)), (842, (.invokevirtual 92309, 845)), (845, (.aload 2, 846)), (846, (.aload 0, 847)), (847, (.iload 3, 848)), (848, (.iconst 1, 849)), (849, (.iadd, 850)), (850, (.iaload, 851)), (851, (.aload 0, 852)), (852, (.iload 3, 853)), (853, (.iconst 2, 854)), (854, (.iadd, 855)), (855, (.iaload, 856)), (856, (.aload 0, 857)), (857, (.iload 3, 858)), (858, (.iconst 3, 859)), (859, (.iadd, 860)), (860, (.iaload, 861)), (861, (.aload 0, 862)), (862, (.iload 3, 863)), (863, (.iconst 4, 864)), (864, (.iadd, 865)), (865, (.iaload, 866)), (866, (.invokevirtual 191653, 869)), (869, (.if_icmp .eq 1671, 872))]
theorem zlaw_12 : zc_law_12.all (zgood 11 1 code) = true := by decide +kernel
def zc_law_13 : List (Nat × (Instr × Nat)) := [(872, (.iconst 0, 873)), (873, (.freturn, 874)), (874, (.aload 1, 875)), (875, (.aload 0, 876)), (876, (.iload 3, 877)), (877, (.iconst 1, 878)), (878, (.iadd, 879)), (879, (.iaload, 880)), (880, (.invokevirtual 93330, 883)), (883, (.aload 2, 884)), (884, (.aload 0, 885)), (885, (.iload 3, 886)), (886, (.iconst 1, 887)), (887, (.iadd, 888)), (888, (.iaload, 889)), (889, (.invokevirtual 194722, 892)), (892, (.if_icmp .eq 1671, 895)), (895, (.iconst 0, 896)), (896, (.freturn, 897)), (897, (.aload 1, 898)), (898, (.aload 0, 899)), (899, (.iload 3, 900)), (900, (.iconst 1, 901)), (901, (.iadd, 902)), (902, (.iaload, 903)), (903, (.aload 0, 904)), (904, (.iload 3, 905)), (905, (.iconst 2, 906)), (906, (.iadd, 907)), (907, (.iaload, 908)), (908, (.invokevirtual 94355, 911)), (911, (.aload 2, 912)), (912, (.aload 0, 913)), (913, (.iload 3, 914)), (914, (.iconst 1, 915)), (915, (.iadd, 916)), (916, (.iaload, 917)), (917, (.aload 0, 918)), (918, (.iload 3, 919)), (919, (.iconst 2, 920))]
theorem zlaw_13 : zc_law_13.all (zgood 11 1 code) = true := by decide +kernel
def zc_law_14 : List (Nat × (Instr × Nat)) := [(920, (.iadd, 921)), (921, (.iaload, 922)), (922, (.invokevirtual 195747, 925)), (925, (.if_icmp .eq 1671, 928)), (928, (.iconst 0, 929)), (929, (.freturn, 930)), (930, (.aload 1, 931)), (931, (.invokevirtual 95377, 934)), (934, (.aload 2, 935)), (935, (.invokevirtual 197793, 938)), (938, (.if_icmp .eq 1671, 941)), (941, (.iconst 0, 942)), (942, (.freturn, 943)), (943, (.aload 1, 944)), (944, (.aload 0, 945)), (945, (.iload 3, 946)), (946, (.iconst 1, 947)), (947, (.iadd, 948)), (948, (.iaload, 949)), (949, (.invokevirtual 96402, 952)), (952, (.aload 2, 953)), (953, (.aload 0, 954)), (954, (.iload 3, 955)), (955, (.iconst 1, 956)), (956, (.iadd, 957)), (957, (.iaload, 958)), (958, (.invokevirtual 198818, 961)), (961, (.if_icmp .eq 1671, 964)), (964, (.iconst 0, 965)), (965, (.freturn, 966)), (966, (.aload 1, 967)), (967, (.aload 0, 968)), (968, (.iload 3, 969)), (969, (.iconst 1, 970)), (970, (.iadd, 971)), (971, (.iaload, 972)), (972, (.aload 0, 973)), (973, (.iload 3, 974)), (974, (.iconst 2, 975)), (975, (.iadd, 976))]
theorem zlaw_14 : zc_law_14.all (zgood 11 1 code) = true := by decide +kernel
def zc_law_15 : List (Nat × (Instr × Nat)) := [(976, (.iaload, 977)), (977, (.aload 0, 978)), (978, (.iload 3, 979)), (979, (.iconst 3, 980)), (980, (.iadd, 981)), (981, (.iaload, 982)), (982, (.invokevirtual 97428, 985)), (985, (.aload 2, 986)), (986, (.aload 0, 987)), (987, (.iload 3, 988)), (988, (.iconst 1, 989)), (989, (.iadd, 990)), (990, (.iaload, 991)), (991, (.aload 0, 992)), (992, (.iload 3, 993)), (993, (.iconst 2, 994)), (994, (.iadd, 995)), (995, (.iaload, 996)), (996, (.aload 0, 997)), (997, (.iload 3, 998)), (998, (.iconst 3, 999)), (999, (.iadd, 1000)), (1000, (.iaload, 1001)), (1001, (.invokevirtual 202916, 1004)), (1004, (.if_icmp .eq 1671, 1007)), (1007, (.iconst 0, 1008)), (1008, (.freturn, 1009)), (1009, (.aload 1, 1010)), (1010, (.aload 0, 1011)), (1011, (.iload 3, 1012)), (1012, (.iconst 1, 1013)), (1013, (.iadd, 1014)), (1014, (.iaload, 1015)), (1015, (.aload 0, 1016)), (1016, (.iload 3, 1017)), (1017, (.iconst 2, 1018)), (1018, (.iadd, 1019)), (1019, (.iaload, 1020)), (1020, (.invokevirtual 98451, 1023)), (1023, (.aload 2, 1024))]
theorem zlaw_15 : zc_law_15.all (zgood 11 1 code) = true := by decide +kernel
def zc_law_16 : List (Nat × (Instr × Nat)) := [(1024, (.aload 0, 1025)), (1025, (.iload 3, 1026)), (1026, (.iconst 1, 1027)), (1027, (.iadd, 1028)), (1028, (.iaload, 1029)), (1029, (.aload 0, 1030)), (1030, (.iload 3, 1031)), (1031, (.iconst 2, 1032)), (1032, (.iadd, 1033)), (1033, (.iaload, 1034)), (1034, (.invokevirtual 203939, 1037)), (1037, (.if_icmp .eq 1671, 1040)), (1040, (.iconst 0, 1041)), (1041, (.freturn, 1042)), (1042, (.aload 1, 1043)), (1043, (.aload 0, 1044)), (1044, (.iload 3, 1045)), (1045, (.iconst 1, 1046)), (1046, (.iadd, 1047)), (1047, (.iaload, 1048)), (1048, (.aload 0, 1049)), (1049, (.iload 3, 1050)), (1050, (.iconst 2, 1051)), (1051, (.iadd, 1052)), (1052, (.iaload, 1053)), (1053, (.invokevirtual 99475, 1056)), (1056, (.aload 2, 1057)), (1057, (.aload 0, 1058)), (1058, (.iload 3, 1059)), (1059, (.iconst 1, 1060)), (1060, (.iadd, 1061)), (1061, (.iaload, 1062)), (1062, (.aload 0, 1063)), (1063, (.iload 3, 1064)), (1064, (.iconst 2, 1065)), (1065, (.iadd, 1066)), (1066, (.iaload, 1067)), (1067, (.invokevirtual 205987, 1070)), (1070, (.if_icmp .eq 1671, 1073)), (1073, (.iconst 0, 1074))]
theorem zlaw_16 : zc_law_16.all (zgood 11 1 code) = true := by decide +kernel
def zc_law_17 : List (Nat × (Instr × Nat)) := [(1074, (.freturn, 1075)), (1075, (.aload 1, 1076)), (1076, (.aload 0, 1077)), (1077, (.iload 3, 1078)), (1078, (.iconst 1, 1079)), (1079, (.iadd, 1080)), (1080, (.iaload, 1081)), (1081, (.aload 0, 1082)), (1082, (.iload 3, 1083)), (1083, (.iconst 2, 1084)), (1084, (.iadd, 1085)), (1085, (.iaload, 1086)), (1086, (.invokevirtual 100499, 1089)), (1089, (.aload 2, 1090)), (1090, (.aload 0, 1091)), (1091, (.iload 3, 1092)), (1092, (.iconst 1, 1093)), (1093, (.iadd, 1094)), (1094, (.iaload, 1095)), (1095, (.aload 0, 1096)), (1096, (.iload 3, 1097)), (1097, (.iconst 2, 1098)), (1098, (.iadd, 1099)), (1099, (.iaload, 1100)), (1100, (.invokevirtual 207011, 1103)), (1103, (.if_icmp .eq 1671, 1106)), (1106, (.iconst 0, 1107)), (1107, (.freturn, 1108)), (1108, (.aload 1, 1109)), (1109, (.aload 0, 1110)), (1110, (.iload 3, 1111)), (1111, (.iconst 1, 1112)), (1112, (.iadd, 1113)), (1113, (.iaload, 1114)), (1114, (.aload 0, 1115)), (1115, (.iload 3, 1116)), (1116, (.iconst 2, 1117)), (1117, (.iadd, 1118)), (1118, (.iaload, 1119)), (1119, (.invokevirtual 101523, 1122))]
theorem zlaw_17 : zc_law_17.all (zgood 11 1 code) = true := by decide +kernel
def zc_law_18 : List (Nat × (Instr × Nat)) := [(1122, (.aload 2, 1123)), (1123, (.aload 0, 1124)), (1124, (.iload 3, 1125)), (1125, (.iconst 1, 1126)), (1126, (.iadd, 1127)), (1127, (.iaload, 1128)), (1128, (.aload 0, 1129)), (1129, (.iload 3, 1130)), (1130, (.iconst 2, 1131)), (1131, (.iadd, 1132)), (1132, (.iaload, 1133)), (1133, (.invokevirtual 210083, 1136)), (1136, (.if_icmp .eq 1671, 1139)), (1139, (.iconst 0, 1140)), (1140, (.freturn, 1141)), (1141, (.aload 1, 1142)), (1142, (.aload 0, 1143)), (1143, (.iload 3, 1144)), (1144, (.iconst 1, 1145)), (1145, (.iadd, 1146)), (1146, (.iaload, 1147)), (1147, (.aload 0, 1148)), (1148, (.iload 3, 1149)), (1149, (.iconst 2, 1150)), (1150, (.iadd, 1151)), (1151, (.iaload, 1152)), (1152, (.invokevirtual 102547, 1155)), (1155, (.aload 2, 1156)), (1156, (.aload 0, 1157)), (1157, (.iload 3, 1158)), (1158, (.iconst 1, 1159)), (1159, (.iadd, 1160)), (1160, (.iaload, 1161)), (1161, (.aload 0, 1162)), (1162, (.iload 3, 1163)), (1163, (.iconst 2, 1164)), (1164, (.iadd, 1165)), (1165, (.iaload, 1166)), (1166, (.invokevirtual 211107, 1169)), (1169, (.if_icmp .eq 1671, 1172))]
theorem zlaw_18 : zc_law_18.all (zgood 11 1 code) = true := by decide +kernel
def zc_law_19 : List (Nat × (Instr × Nat)) := [(1172, (.iconst 0, 1173)), (1173, (.freturn, 1174)), (1174, (.aload 1, 1175)), (1175, (.aload 0, 1176)), (1176, (.iload 3, 1177)), (1177, (.iconst 1, 1178)), (1178, (.iadd, 1179)), (1179, (.iaload, 1180)), (1180, (.invokevirtual 103570, 1183)), (1183, (.aload 2, 1184)), (1184, (.aload 0, 1185)), (1185, (.iload 3, 1186)), (1186, (.iconst 1, 1187)), (1187, (.iadd, 1188)), (1188, (.iaload, 1189)), (1189, (.invokevirtual 212130, 1192)), (1192, (.if_icmp .eq 1671, 1195)), (1195, (.iconst 0, 1196)), (1196, (.freturn, 1197)), (1197, (.aload 1, 1198)), (1198, (.aload 0, 1199)), (1199, (.iload 3, 1200)), (1200, (.iconst 1, 1201)), (1201, (.iadd, 1202)), (1202, (.iaload, 1203)), (1203, (.invokevirtual 104594, 1206)), (1206, (.aload 2, 1207)), (1207, (.aload 0, 1208)), (1208, (.iload 3, 1209)), (1209, (.iconst 1, 1210)), (1210, (.iadd, 1211)), (1211, (.iaload, 1212)), (1212, (.invokevirtual 213154, 1215)), (1215, (.if_icmp .eq 1671, 1218)), (1218, (.iconst 0, 1219)), (1219, (.freturn, 1220)), (1220, (.aload 1, 1221)), (1221, (.aload 0, 1222)), (1222, (.iload 3, 1223)), (1223, (.iconst 1, 1224))]
theorem zlaw_19 : zc_law_19.all (zgood 11 1 code) = true := by decide +kernel
def zc_law_20 : List (Nat × (Instr × Nat)) := [(1224, (.iadd, 1225)), (1225, (.iaload, 1226)), (1226, (.invokevirtual 105618, 1229)), (1229, (.aload 2, 1230)), (1230, (.aload 0, 1231)), (1231, (.iload 3, 1232)), (1232, (.iconst 1, 1233)), (1233, (.iadd, 1234)), (1234, (.iaload, 1235)), (1235, (.invokevirtual 215202, 1238)), (1238, (.if_icmp .eq 1671, 1241)), (1241, (.iconst 0, 1242)), (1242, (.freturn, 1243)), (1243, (.aload 1, 1244)), (1244, (.aload 0, 1245)), (1245, (.iload 3, 1246)), (1246, (.iconst 1, 1247)), (1247, (.iadd, 1248)), (1248, (.iaload, 1249)), (1249, (.invokevirtual 106642, 1252)), (1252, (.aload 2, 1253)), (1253, (.aload 0, 1254)), (1254, (.iload 3, 1255)), (1255, (.iconst 1, 1256)), (1256, (.iadd, 1257)), (1257, (.iaload, 1258)), (1258, (.invokevirtual 216226, 1261)), (1261, (.if_icmp .eq 1671, 1264)), (1264, (.iconst 0, 1265)), (1265, (.freturn, 1266)), (1266, (.aload 1, 1267)), (1267, (.aload 0, 1268)), (1268, (.iload 3, 1269)), (1269, (.iconst 1, 1270)), (1270, (.iadd, 1271)), (1271, (.iaload, 1272)), (1272, (.aload 0, 1273)), (1273, (.iload 3, 1274)), (1274, (.iconst 2, 1275)), (1275, (.iadd, 1276))]
theorem zlaw_20 : zc_law_20.all (zgood 11 1 code) = true := by decide +kernel
def zc_law_21 : List (Nat × (Instr × Nat)) := [(1276, (.iaload, 1277)), (1277, (.invokevirtual 107667, 1280)), (1280, (.aload 2, 1281)), (1281, (.aload 0, 1282)), (1282, (.iload 3, 1283)), (1283, (.iconst 1, 1284)), (1284, (.iadd, 1285)), (1285, (.iaload, 1286)), (1286, (.aload 0, 1287)), (1287, (.iload 3, 1288)), (1288, (.iconst 2, 1289)), (1289, (.iadd, 1290)), (1290, (.iaload, 1291)), (1291, (.invokevirtual 217251, 1294)), (1294, (.if_icmp .eq 1671, 1297)), (1297, (.iconst 0, 1298)), (1298, (.freturn, 1299)), (1299, (.aload 1, 1300)), (1300, (.invokevirtual 108689, 1303)), (1303, (.aload 2, 1304)), (1304, (.invokevirtual 218273, 1307)), (1307, (.if_icmp .eq 1671, 1310)), (1310, (.iconst 0, 1311)), (1311, (.freturn, 1312)), (1312, (.aload 1, 1313)), (1313, (.invokevirtual 109713, 1316)), (1316, (.aload 2, 1317)), (1317, (.invokevirtual 233633, 1320)), (1320, (.if_icmp .eq 1671, 1323)), (1323, (.iconst 0, 1324)), (1324, (.freturn, 1325)), (1325, (.aload 1, 1326)), (1326, (.aload 0, 1327)), (1327, (.iload 3, 1328)), (1328, (.iconst 1, 1329)), (1329, (.iadd, 1330)), (1330, (.iaload, 1331)), (1331, (.aload 0, 1332)), (1332, (.iload 3, 1333)), (1333, (.iconst 2, 1334))]
theorem zlaw_21 : zc_law_21.all (zgood 11 1 code) = true := by decide +kernel
def zc_law_22 : List (Nat × (Instr × Nat)) := [(1334, (.iadd, 1335)), (1335, (.iaload, 1336)), (1336, (.invokevirtual 110739, 1339)), (1339, (.aload 2, 1340)), (1340, (.aload 0, 1341)), (1341, (.iload 3, 1342)), (1342, (.iconst 1, 1343)), (1343, (.iadd, 1344)), (1344, (.iaload, 1345)), (1345, (.aload 0, 1346)), (1346, (.iload 3, 1347)), (1347, (.iconst 2, 1348)), (1348, (.iadd, 1349)), (1349, (.iaload, 1350)), (1350, (.invokevirtual 234659, 1353)), (1353, (.if_icmp .eq 1671, 1356)), (1356, (.iconst 0, 1357)), (1357, (.freturn, 1358)), (1358, (.aload 1, 1359)), (1359, (.aload 0, 1360)), (1360, (.iload 3, 1361)), (1361, (.iconst 1, 1362)), (1362, (.iadd, 1363)), (1363, (.iaload, 1364)), (1364, (.aload 0, 1365)), (1365, (.iload 3, 1366)), (1366, (.iconst 2, 1367)), (1367, (.iadd, 1368)), (1368, (.iaload, 1369)), (1369, (.invokevirtual 111763, 1372)), (1372, (.aload 2, 1373)), (1373, (.aload 0, 1374)), (1374, (.iload 3, 1375)), (1375, (.iconst 1, 1376)), (1376, (.iadd, 1377)), (1377, (.iaload, 1378)), (1378, (.aload 0, 1379)), (1379, (.iload 3, 1380)), (1380, (.iconst 2, 1381)), (1381, (.iadd, 1382))]
theorem zlaw_22 : zc_law_22.all (zgood 11 1 code) = true := by decide +kernel
def zc_law_23 : List (Nat × (Instr × Nat)) := [(1382, (.iaload, 1383)), (1383, (.invokevirtual 236707, 1386)), (1386, (.if_icmp .eq 1671, 1389)), (1389, (.iconst 0, 1390)), (1390, (.freturn, 1391)), (1391, (.aload 1, 1392)), (1392, (.aload 0, 1393)), (1393, (.iload 3, 1394)), (1394, (.iconst 1, 1395)), (1395, (.iadd, 1396)), (1396, (.iaload, 1397)), (1397, (.aload 0, 1398)), (1398, (.iload 3, 1399)), (1399, (.iconst 2, 1400)), (1400, (.iadd, 1401)), (1401, (.iaload, 1402)), (1402, (.aload 0, 1403)), (1403, (.iload 3, 1404)), (1404, (.iconst 3, 1405)), (1405, (.iadd, 1406)), (1406, (.iaload, 1407)), (1407, (.invokevirtual 112788, 1410)), (1410, (.aload 2, 1411)), (1411, (.aload 0, 1412)), (1412, (.iload 3, 1413)), (1413, (.iconst 1, 1414)), (1414, (.iadd, 1415)), (1415, (.iaload, 1416)), (1416, (.aload 0, 1417)), (1417, (.iload 3, 1418)), (1418, (.iconst 2, 1419)), (1419, (.iadd, 1420)), (1420, (.iaload, 1421)), (1421, (.aload 0, 1422)), (1422, (.iload 3, 1423)), (1423, (.iconst 3, 1424)), (1424, (.iadd, 1425)), (1425, (.iaload, 1426)), (1426, (.invokevirtual 238756, 1429)), (1429, (.if_icmp .eq 1671, 1432))]
theorem zlaw_23 : zc_law_23.all (zgood 11 1 code) = true := by decide +kernel
def zc_law_24 : List (Nat × (Instr × Nat)) := [(1432, (.iconst 0, 1433)), (1433, (.freturn, 1434)), (1434, (.aload 1, 1435)), (1435, (.aload 0, 1436)), (1436, (.iload 3, 1437)), (1437, (.iconst 1, 1438)), (1438, (.iadd, 1439)), (1439, (.iaload, 1440)), (1440, (.aload 0, 1441)), (1441, (.iload 3, 1442)), (1442, (.iconst 2, 1443)), (1443, (.iadd, 1444)), (1444, (.iaload, 1445)), (1445, (.aload 0, 1446)), (1446, (.iload 3, 1447)), (1447, (.iconst 3, 1448)), (1448, (.iadd, 1449)), (1449, (.iaload, 1450)), (1450, (.invokevirtual 113812, 1453)), (1453, (.aload 2, 1454)), (1454, (.aload 0, 1455)), (1455, (.iload 3, 1456)), (1456, (.iconst 1, 1457)), (1457, (.iadd, 1458)), (1458, (.iaload, 1459)), (1459, (.aload 0, 1460)), (1460, (.iload 3, 1461)), (1461, (.iconst 2, 1462)), (1462, (.iadd, 1463)), (1463, (.iaload, 1464)), (1464, (.aload 0, 1465)), (1465, (.iload 3, 1466)), (1466, (.iconst 3, 1467)), (1467, (.iadd, 1468)), (1468, (.iaload, 1469)), (1469, (.invokevirtual 240804, 1472)), (1472, (.if_icmp .eq 1671, 1475)), (1475, (.iconst 0, 1476)), (1476, (.freturn, 1477)), (1477, (.aload 1, 1478))]
theorem zlaw_24 : zc_law_24.all (zgood 11 1 code) = true := by decide +kernel
def zc_law_25 : List (Nat × (Instr × Nat)) := [(1478, (.aload 0, 1479)), (1479, (.iload 3, 1480)), (1480, (.iconst 1, 1481)), (1481, (.iadd, 1482)), (1482, (.iaload, 1483)), (1483, (.aload 0, 1484)), (1484, (.iload 3, 1485)), (1485, (.iconst 2, 1486)), (1486, (.iadd, 1487)), (1487, (.iaload, 1488)), (1488, (.aload 0, 1489)), (1489, (.iload 3, 1490)), (1490, (.iconst 3, 1491)), (1491, (.iadd, 1492)), (1492, (.iaload, 1493)), (1493, (.aload 0, 1494)), (1494, (.iload 3, 1495)), (1495, (.iconst 4, 1496)), (1496, (.iadd, 1497)), (1497, (.iaload, 1498)), (1498, (.aload 0, 1499)), (1499, (.iload 3, 1500)), (1500, (.iconst 5, 1501)), (1501, (.iadd, 1502)), (1502, (.iaload, 1503)), (1503, (.invokevirtual 114838, 1506)), (1506, (.aload 2, 1507)), (1507, (.aload 0, 1508)), (1508, (.iload 3, 1509)), (1509, (.iconst 1, 1510)), (1510, (.iadd, 1511)), (1511, (.iaload, 1512)), (1512, (.aload 0, 1513)), (1513, (.iload 3, 1514)), (1514, (.iconst 2, 1515)), (1515, (.iadd, 1516)), (1516, (.iaload, 1517)), (1517, (.aload 0, 1518)), (1518, (.iload 3, 1519)), (1519, (.iconst 3, 1520))]
theorem zlaw_25 : zc_law_25.all (zgood 11 1 code) = true := by decide +kernel
def zc_law_26 : List (Nat × (Instr × Nat)) := [(1520, (.iadd, 1521)), (1521, (.iaload, 1522)), (1522, (.aload 0, 1523)), (1523, (.iload 3, 1524)), (1524, (.iconst 4, 1525)), (1525, (.iadd, 1526)), (1526, (.iaload, 1527)), (1527, (.aload 0, 1528)), (1528, (.iload 3, 1529)), (1529, (.iconst 5, 1530)), (1530, (.iadd, 1531)), (1531, (.iaload, 1532)), (1532, (.invokevirtual 241830, 1535)), (1535, (.if_icmp .eq 1671, 1538)), (1538, (.iconst 0, 1539)), (1539, (.freturn, 1540)), (1540, (.aload 1, 1541)), (1541, (.aload 0, 1542)), (1542, (.iload 3, 1543)), (1543, (.iconst 1, 1544)), (1544, (.iadd, 1545)), (1545, (.iaload, 1546)), (1546, (.invokevirtual 115858, 1549)), (1549, (.aload 2, 1550)), (1550, (.aload 0, 1551)), (1551, (.iload 3, 1552)), (1552, (.iconst 1, 1553)), (1553, (.iadd, 1554)), (1554, (.iaload, 1555)), (1555, (.invokevirtual 242850, 1558)), (1558, (.if_icmp .eq 1671, 1561)), (1561, (.iconst 0, 1562)), (1562, (.freturn, 1563)), (1563, (.aload 1, 1564)), (1564, (.aload 0, 1565)), (1565, (.iload 3, 1566)), (1566, (.iconst 1, 1567)), (1567, (.iadd, 1568)), (1568, (.iaload, 1569)), (1569, (.invokevirtual 116882, 1572))]
theorem zlaw_26 : zc_law_26.all (zgood 11 1 code) = true := by decide +kernel
def zc_law_27 : List (Nat × (Instr × Nat)) := [(1572, (.aload 2, 1573)), (1573, (.aload 0, 1574)), (1574, (.iload 3, 1575)), (1575, (.iconst 1, 1576)), (1576, (.iadd, 1577)), (1577, (.iaload, 1578)), (1578, (.invokevirtual 243874, 1581)), (1581, (.if_icmp .eq 1671, 1584)), (1584, (.iconst 0, 1585)), (1585, (.freturn, 1586)), (1586, (.aload 1, 1587)), (1587, (.invokevirtual 117905, 1590)), (1590, (.aload 2, 1591)), (1591, (.invokevirtual 244897, 1594)), (1594, (.if_icmp .eq 1671, 1597)), (1597, (.iconst 0, 1598)), (1598, (.freturn, 1599)), (1599, (.aload 1, 1600)), (1600, (.invokevirtual 118929, 1603)), (1603, (.aload 2, 1604)), (1604, (.invokevirtual 245921, 1607)), (1607, (.if_icmp .eq 1671, 1610)), (1610, (.iconst 0, 1611)), (1611, (.freturn, 1612)), (1612, (.aload 1, 1613)), (1613, (.invokevirtual 119953, 1616)), (1616, (.aload 2, 1617)), (1617, (.invokevirtual 246945, 1620)), (1620, (.if_icmp .eq 1671, 1623)), (1623, (.iconst 0, 1624)), (1624, (.freturn, 1625)), (1625, (.aload 1, 1626)), (1626, (.aload 0, 1627)), (1627, (.iload 3, 1628)), (1628, (.iconst 1, 1629)), (1629, (.iadd, 1630)), (1630, (.iaload, 1631)), (1631, (.invokevirtual 120978, 1634)), (1634, (.aload 2, 1635)), (1635, (.aload 0, 1636))]
theorem zlaw_27 : zc_law_27.all (zgood 11 1 code) = true := by decide +kernel
def zc_law_28 : List (Nat × (Instr × Nat)) := [(1636, (.iload 3, 1637)), (1637, (.iconst 1, 1638)), (1638, (.iadd, 1639)), (1639, (.iaload, 1640)), (1640, (.invokevirtual 250018, 1643)), (1643, (.if_icmp .eq 1671, 1646)), (1646, (.iconst 0, 1647)), (1647, (.freturn, 1648)), (1648, (.aload 1, 1649)), (1649, (.aload 0, 1650)), (1650, (.iload 3, 1651)), (1651, (.iconst 1, 1652)), (1652, (.iadd, 1653)), (1653, (.iaload, 1654)), (1654, (.invokevirtual 122002, 1657)), (1657, (.aload 2, 1658)), (1658, (.aload 0, 1659)), (1659, (.iload 3, 1660)), (1660, (.iconst 1, 1661)), (1661, (.iadd, 1662)), (1662, (.iaload, 1663)), (1663, (.invokevirtual 251042, 1666)), (1666, (.if_icmp .eq 1671, 1669)), (1669, (.iconst 0, 1670)), (1670, (.freturn, 1671)), (1671, (.iinc 3 6, 1674)), (1674, (.goto 18, 1677)), (1677, (.iconst 1, 1678)), (1678, (.freturn, 1679))]
theorem zlaw_28 : zc_law_28.all (zgood 11 1 code) = true := by decide +kernel
def zc_law : List (Nat × (Instr × Nat)) := zc_law_0 ++ (zc_law_1 ++ (zc_law_2 ++ (zc_law_3 ++ (zc_law_4 ++ (zc_law_5 ++ (zc_law_6 ++ (zc_law_7 ++ (zc_law_8 ++ (zc_law_9 ++ (zc_law_10 ++ (zc_law_11 ++ (zc_law_12 ++ (zc_law_13 ++ (zc_law_14 ++ (zc_law_15 ++ (zc_law_16 ++ (zc_law_17 ++ (zc_law_18 ++ (zc_law_19 ++ (zc_law_20 ++ (zc_law_21 ++ (zc_law_22 ++ (zc_law_23 ++ (zc_law_24 ++ (zc_law_25 ++ (zc_law_26 ++ (zc_law_27 ++ (zc_law_28))))))))))))))))))))))))))))
theorem zlaw_ok : zc_law.all (zgood 11 1 code) = true := by
  unfold zc_law
  simp only [List.all_append, zlaw_0, zlaw_1, zlaw_2, zlaw_3, zlaw_4, zlaw_5, zlaw_6, zlaw_7, zlaw_8, zlaw_9, zlaw_10, zlaw_11, zlaw_12, zlaw_13, zlaw_14, zlaw_15, zlaw_16, zlaw_17, zlaw_18, zlaw_19, zlaw_20, zlaw_21, zlaw_22, zlaw_23, zlaw_24, zlaw_25, zlaw_26, zlaw_27, zlaw_28, Bool.and_self]
end
section
/-! starting text: the printed names file; the word of rows of rows is mine (the printed text names va_AOA, which the kit that is laid here does not have). -/
def va_AOA (ty : FieldType) (U : State) : Prop := (Cond.arrayOver (.array ty)).before #[] U = true
theorem va_AOA.use {ty : FieldType} {A : Array Value} {U : State} (h : va_AOA ty U) : (Cond.arrayOver (.array ty)).before A U = true := h
/-! ===== BEGIN new T[n][m]: the outer array a place, the inner ones among the pooled ===== -/
/-- f, but v at every address of l -/
def vr_up {α : Type} (f : Nat → α) (l : List Nat) (v : α) : Nat → α := fun a => if a ∈ l then v else f a
theorem vr_up_in {α : Type} {f : Nat → α} {l : List Nat} {v : α} {a : Nat} (h : a ∈ l) : vr_up f l v a = v := if_pos h
theorem vr_up_ne {α : Type} {f : Nat → α} {l : List Nat} {v : α} {a : Nat} (h : a ∉ l) : vr_up f l v a = f a := if_neg h
theorem vr_rows {L l : List Nat} {f : Nat → va_E} {e : va_E} (h : ∀ a, a ∈ l → a ∉ L) : va_pl L f ++ l.map (fun a => (a, e)) = va_pl (L ++ l) (vr_up f l e) := by
  unfold va_pl
  rw [List.map_append]
  congr 1
  · apply List.map_congr_left
    intro a ha
    rw [vr_up_ne (fun q => h a q ha)]
  · apply List.map_congr_left
    intro a ha
    rw [vr_up_in ha]
theorem vr_lay {X rows : va_W} {x : Nat × va_E} {pl : va_W} {D : va_G} {cl : List vw_C} {H : Heap} (hP : va_P D cl (((X ++ pl) ++ [x]) ++ rows) H) : va_P D cl ((X ++ [x]) ++ (pl ++ rows)) H := by
  rw [List.append_assoc (X ++ pl)] at hP
  have h := va_P.swap hP
  rw [← List.append_assoc X] at h
  have h2 := va_P.swap h
  rw [List.append_assoc (X ++ [x])] at h2
  exact h2
theorem vr_layD {X rows : va_W} {x : Nat × va_E} {pl : va_W} {A : Nat → Prop} (hD : va_D A (((X ++ pl) ++ [x]) ++ rows)) : va_D A ((X ++ [x]) ++ (pl ++ rows)) := by
  rw [List.append_assoc (X ++ pl)] at hD
  have h := va_D.swap hD
  rw [← List.append_assoc X] at h
  have h2 := va_D.swap h
  rw [List.append_assoc (X ++ [x])] at h2
  exact h2
theorem vr_outer (c : ClassId) (N h0 : Nat) : ∀ i : Nat, Jvm.Free.Multi.outerC c N h0 i = arrV c N (fun j => va_rf (if j < i then some (h0 + 1 + j) else none))
  | 0 => by
    show ({ cls := c, slots := Array.replicate N .null, vm := .none } : Cell) = _
    rw [arrV_new]
    refine congrArg (arrV c N) (funext fun j => ?_)
    simp [va_rf]
  | i + 1 => by
    show (Jvm.Free.Multi.outerC c N h0 i).setSlot i (.ref (h0 + 1 + i)) = _
    rw [vr_outer c N h0 i, arrV_store]
    refine congrArg (arrV c N) (funext fun j => ?_)
    by_cases e : j = i
    · subst e
      simp [updV, va_rf]
    · by_cases h : j < i
      · simp [updV, e, h, Nat.lt_succ_of_lt h]
      · simp [updV, e, h, show ¬ j < i + 1 by omega]
section VGM
variable {p : Program} {l : Launch} {e : Env} {R : Room} {s : State} {m : MethodId} {args : Array Value} {below : List Frame} {meth : Method} {c : Code} {H : Heap} {locs : List Loc} {cells slots : Nat} {Q : State → Prop}
variable {cc : ByteArray} {pc : Nat} {ls : Array Slot} {rest : List Value} {D : va_G} {cl : List vw_C} {A : Nat → Prop} {a : Nat} {tys : List (ClassId × FieldType)} {ws : va_W} {H0 : Heap}
theorem va_mna {X : va_W} {L : List Nat} {f : Nat → va_E} {cc : ByteArray} (hexec : p.tables.exec = Jvm.exec) (hb : c.code = cc) {own : String} {index : Nat} {ty : FieldType} {cy : ClassId} (hown : s.vm.findClass own = some m.cls) (hclink : (Cond.classLink own index ("[" ++ (FieldType.array ty).toString)).before args s = true) (hover : va_AOA ty s) (harr : (Cond.arrayClass ty).before args s = true) (hcy : s.vm.findClass (FieldType.array ty).toString = some cy)
    (hK : va_K D cl tys s) (hP : va_P D cl (X ++ va_pl L f) H) (hD : va_D A (X ++ va_pl L f)) (hS : va_S A H0 H locs) (hA : ∀ q, H0.size ≤ q → A q) {n k : Int32} {N' K' : Nat} {z : vp_A} (hn : ¬ n < 0) (hk : ¬ k < 0) (hN : n.toNatClampNeg = N') (hM : k.toNatClampNeg = K')
    (hb1 : N' * 4 ≤ 536870912) (hb2 : K' * componentBytes ty ≤ 536870912) (hb3 : K' ≤ 536870912) (hdf : fits ty (defaultValue ty) = true) (hdd : (defaultValue ty).isDefault = true) (hcells : cells + (1 + N') ≤ R.cells) (hslots : slots + (N' + N' * K') ≤ R.slots) (hz : ∀ c : ClassId, Jvm.Free.Multi.innerC c K' (defaultValue ty) = vp_cell c z) (hdg : decode cc pc = .ok (.multianewarray index 2, 4))
    (kk : ∀ (q : Nat) (r : Nat → Nat) (cA : ClassId) (H1 : Heap), (∀ i j : Nat, i < N' → j < N' → r i = r j → i = j) → (∀ i : Nat, i < N' → r i ∉ L) → va_K D cl (tys ++ [(cA, .array ty)]) s →
      va_P D cl ((X ++ [(q, .inl (cA, N', .inr (.inr (.inr (.inr (fun i => if i < N' then some (r i) else none))))))]) ++ va_pl (L ++ (List.range N').map r) (vr_up f ((List.range N').map r) (.inl (cy, z)))) H1 → va_D A ((X ++ [(q, .inl (cA, N', .inr (.inr (.inr (.inr (fun i => if i < N' then some (r i) else none))))))]) ++ va_pl (L ++ (List.range N').map r) (vr_up f ((List.range N').map r) (.inl (cy, z)))) → va_S A H0 H1 locs →
      W p l e R s m args below meth c H1 locs (cells + 1 + N') (slots + N' + N' * K') Q (F0 m (pc + 4) ls (.ref q :: rest))) : W p l e R s m args below meth c H locs cells slots Q (F0 m pc ls (.int k :: .int n :: rest)) := by
  subst hN
  subst hM
  intro T hT Xs
  obtain ⟨vm₁, cA, comp, -, fA, fC, hO, -, X', step⟩ := Xs.multianewarray2F hexec hown hclink (va_AOA.use hover) harr (g := F0 m pc ls (.int k :: .int n :: rest)) rfl (by rw [hb]; exact hdg) rfl hn hk hb1 hb2 hb3 hdf hdd hcells hslots
  have ec : some cy = some comp := hcy.symm.trans fC
  cases ec
  generalize hF : Jvm.Free.Multi.fill (T.setVm vm₁) cA cy n.toNatClampNeg k.toNatClampNeg (defaultValue ty) n.toNatClampNeg = F at X' step
  have hTh : (T.setVm vm₁).heap = H := hT
  obtain ⟨f1, f2, -, -⟩ := Jvm.Free.Multi.fill_facts (T.setVm vm₁) cA cy n.toNatClampNeg k.toNatClampNeg (defaultValue ty) n.toNatClampNeg
  rw [hF, hTh] at f1 f2
  have hold : ∀ x : Nat, x < H.size → F.heap[x]? = H[x]? := fun x hx => by
    have := Jvm.Free.Multi.fill_old (T.setVm vm₁) cA cy n.toNatClampNeg k.toNatClampNeg (defaultValue ty) (a := x) (by rw [hTh]; exact hx) n.toNatClampNeg
    rw [hF, hTh] at this
    exact this
  have hrow : ∀ j : Nat, j < n.toNatClampNeg → F.heap[H.size + 1 + j]? = some (vp_cell cy z) := fun j hj => by
    have := Jvm.Free.Multi.fill_inner (T.setVm vm₁) cA cy n.toNatClampNeg k.toNatClampNeg (defaultValue ty) n.toNatClampNeg j hj
    rw [hF, hTh, hz] at this
    exact this
  have hout : Jvm.Free.Multi.outerC cA n.toNatClampNeg H.size n.toNatClampNeg = vp_cell cA (n.toNatClampNeg, .inr (.inr (.inr (.inr (fun i => if i < n.toNatClampNeg then some (H.size + 1 + i) else none))))) := by
    rw [vp_cell_q]
    exact vr_outer cA n.toNatClampNeg H.size n.toNatClampNeg
  rw [hout] at f2
  have hlt : ∀ a, a ∈ L → a < H.size := fun a ha => by
    obtain ⟨k9, hk9⟩ := va_pl_get (X := X) (f := f) ha
    exact (hP k9 _ hk9).lt
  have hnl : ∀ i : Nat, i < n.toNatClampNeg → H.size + 1 + i ∉ L := fun i _ h => by
    have := hlt _ h
    omega
  have hnm : ∀ a, a ∈ (List.range n.toNatClampNeg).map (fun i => H.size + 1 + i) → a ∉ L := fun a ha h => by
    obtain ⟨i, -, rfl⟩ := List.mem_map.mp ha
    have := hlt _ h
    omega
  have hP0 : va_P D cl (X ++ va_pl L f) F.heap := hP.kept (fun k9 x hx => hold x.1 ((hP k9 x hx).lt))
  have hP1 : va_P D cl ((X ++ va_pl L f) ++ [(H.size, .inl (cA, n.toNatClampNeg, .inr (.inr (.inr (.inr (fun i => if i < n.toNatClampNeg then some (H.size + 1 + i) else none))))))]) F.heap := hP0.app (fun k9 x hx => by
    have h0 : k9 < 1 := (List.getElem?_eq_some_iff.mp hx).1
    rw [show k9 = 0 by omega] at hx
    cases hx
    exact f2)
  have hP2 : va_P D cl (((X ++ va_pl L f) ++ [(H.size, .inl (cA, n.toNatClampNeg, .inr (.inr (.inr (.inr (fun i => if i < n.toNatClampNeg then some (H.size + 1 + i) else none))))))]) ++ ((List.range n.toNatClampNeg).map (fun i => H.size + 1 + i)).map (fun a => (a, .inl (cy, z)))) F.heap := hP1.app (fun k9 x hx => by
    obtain ⟨a, ha, rfl⟩ := List.mem_map.mp (List.mem_of_getElem? hx)
    obtain ⟨i, hi, rfl⟩ := List.mem_map.mp ha
    exact hrow i (List.mem_range.mp hi))
  have hD2 : va_D A (((X ++ va_pl L f) ++ [(H.size, .inl (cA, n.toNatClampNeg, .inr (.inr (.inr (.inr (fun i => if i < n.toNatClampNeg then some (H.size + 1 + i) else none))))))]) ++ ((List.range n.toNatClampNeg).map (fun i => H.size + 1 + i)).map (fun a => (a, .inl (cy, z)))) := by
    have hD1 := hD.push (e := .inl (cA, n.toNatClampNeg, .inr (.inr (.inr (.inr (fun i => if i < n.toNatClampNeg then some (H.size + 1 + i) else none)))))) hP rfl (hA _ hS.1)
    generalize hW1 : (X ++ va_pl L f) ++ [(H.size, .inl (cA, n.toNatClampNeg, .inr (.inr (.inr (.inr (fun i => if i < n.toNatClampNeg then some (H.size + 1 + i) else none))))))] = W1 at hD1 hP1 ⊢
    have hle : ∀ (k9 : Nat) (x : Nat × va_E), W1[k9]? = some x → x.1 ≤ H.size := fun k9 x hx => by
      rw [← hW1] at hx
      by_cases hl : k9 < (X ++ va_pl L f).length
      · rw [List.getElem?_append_left hl] at hx
        exact Nat.le_of_lt ((hP k9 x hx).lt)
      · rw [List.getElem?_append_right (by omega)] at hx
        have h0 : k9 - (X ++ va_pl L f).length < 1 := (List.getElem?_eq_some_iff.mp hx).1
        rw [show k9 - (X ++ va_pl L f).length = 0 by omega] at hx
        cases hx
        exact Nat.le_refl _
    have hr : ∀ (k9 : Nat) (x : Nat × va_E), (((List.range n.toNatClampNeg).map (fun i => H.size + 1 + i)).map (fun a => ((a, .inl (cy, z)) : Nat × va_E)))[k9]? = some x → x.1 = H.size + 1 + k9 := fun k9 x hx => by
      rw [List.getElem?_map, List.getElem?_map] at hx
      by_cases h9 : k9 < n.toNatClampNeg
      · rw [List.getElem?_range h9] at hx
        cases hx
        rfl
      · have hn0 : (List.range n.toNatClampNeg)[k9]? = none := List.getElem?_eq_none (by rw [List.length_range]; omega)
        rw [hn0] at hx
        cases hx
    refine ⟨fun i j x y hi hj hxy => ?_, fun k9 x hx => ?_⟩
    · by_cases h1 : i < W1.length <;> by_cases h2 : j < W1.length
      · rw [List.getElem?_append_left h1] at hi
        rw [List.getElem?_append_left h2] at hj
        exact hD1.1 i j x y hi hj hxy
      · rw [List.getElem?_append_left h1] at hi
        rw [List.getElem?_append_right (by omega)] at hj
        have := hle _ _ hi
        have := hr _ _ hj
        omega
      · rw [List.getElem?_append_right (by omega)] at hi
        rw [List.getElem?_append_left h2] at hj
        have := hle _ _ hj
        have := hr _ _ hi
        omega
      · rw [List.getElem?_append_right (by omega)] at hi hj
        have := hr _ _ hi
        have := hr _ _ hj
        omega
    · by_cases h1 : k9 < W1.length
      · rw [List.getElem?_append_left h1] at hx
        exact hD1.2 k9 x hx
      · rw [List.getElem?_append_right (by omega)] at hx
        have := hr _ _ hx
        exact hA _ (by have := hS.1; omega)
  have hAr : ArrOfT s cA (.array ty) := fun N9 z9 => by
    obtain ⟨-, k9, hk9, cm9, hkk9⟩ := (hO 0 0 0).1
    exact ⟨(fun q hq => by cases hq), k9, hk9, cm9, hkk9⟩
  have hK2 : va_K D cl (tys ++ [(cA, .array ty)]) s := ⟨hK.1, fun k9 x hx => by
    by_cases hl : k9 < tys.length
    · rw [List.getElem?_append_left hl] at hx
      exact hK.2 k9 x hx
    · rw [List.getElem?_append_right (by omega)] at hx
      have h0 : k9 - tys.length < 1 := (List.getElem?_eq_some_iff.mp hx).1
      rw [show k9 - tys.length = 0 by omega] at hx
      cases hx
      exact ⟨hAr, fA⟩⟩
  obtain ⟨t, a1, b1⟩ := kk H.size (fun i => H.size + 1 + i) cA F.heap (fun i j _ _ h => by have h9 : H.size + 1 + i = H.size + 1 + j := h; omega) hnl hK2 (by rw [← vr_rows hnm]; exact vr_lay hP2) (by rw [← vr_rows hnm]; exact vr_layD hD2) ⟨by rw [f1]; have := hS.1; omega, fun x h1 h2 => (hold x (Nat.lt_of_lt_of_le h1 hS.1)).trans (hS.2.1 x h1 h2), hS.2.2⟩ F rfl X'
  refine ⟨t, step t ?_, b1⟩
  have e : T.heap.size = H.size := by rw [hT]
  rw [e]
  exact a1
end VGM
/-! ===== END ===== -/
end
section
/-! THE SMALL MACHINE AND THE MACHINE: how a value, a cell, locals, a stack stand for one another. ws is the world of the kit: cell a of the small heap is its place a - 1. -/
def zRR (ws : va_W) : Nat → Value → Prop
  | 0, w => w = .null
  | b + 1, w => ∃ q, ws[b]? = some q ∧ w = .ref q.1
def zVR (pa : Nat → Nat) (ws : va_W) (v : zV) (w : Value) : Prop := match v with
  | .inl z => ∃ x : Int32, w = .int x ∧ x.toInt = z
  | .inr (.inl z) => ∃ x : Int64, w = .long x ∧ x.toInt = z
  | .inr (.inr (.inl a)) => zRR ws a w
  | .inr (.inr (.inr j)) => w = .ref (pa j)
def zext (ws ws' : va_W) : Prop := ∀ (b : Nat) (q : Nat × va_E), ws[b]? = some q → ∃ q', ws'[b]? = some q' ∧ q'.1 = q.1
theorem zext.refl (ws : va_W) : zext ws ws := fun _ q h => ⟨q, h, rfl⟩
theorem zext.trans {w1 w2 w3 : va_W} (h : zext w1 w2) (h' : zext w2 w3) : zext w1 w3 := fun b q hq => by
  obtain ⟨q', h1, h2⟩ := h b q hq
  obtain ⟨q'', h3, h4⟩ := h' b q' h1
  exact ⟨q'', h3, h4.trans h2⟩
theorem zext.set {ws : va_W} {b a : Nat} {e e' : va_E} (h : ws[b]? = some (a, e)) : zext ws (ws.set b (a, e')) := by
  intro i q hq
  by_cases hi : i = b
  · subst hi
    rw [h] at hq
    cases hq
    exact ⟨(a, e'), by rw [List.getElem?_set_self (List.getElem?_eq_some_iff.mp h).1], rfl⟩
  · exact ⟨q, by rw [List.getElem?_set_ne (Ne.symm hi)]; exact hq, rfl⟩
theorem zext.app (ws l : va_W) : zext ws (ws ++ l) := fun b q hq => ⟨q, by rw [List.getElem?_append_left (List.getElem?_eq_some_iff.mp hq).1]; exact hq, rfl⟩
theorem zRR.mono {ws ws' : va_W} (h : zext ws ws') : ∀ {a : Nat} {w : Value}, zRR ws a w → zRR ws' a w
  | 0, _, hw => hw
  | b + 1, _, ⟨q, h1, h2⟩ => by
    obtain ⟨q', h3, h4⟩ := h b q h1
    exact ⟨q', h3, by rw [h2, h4]⟩
theorem zVR.mono {pa : Nat → Nat} {ws ws' : va_W} (h : zext ws ws') {v : zV} {w : Value} (hw : zVR pa ws v w) : zVR pa ws' v w := by
  match v, hw with
  | .inl z, hw => exact hw
  | .inr (.inl z), hw => exact hw
  | .inr (.inr (.inl a)), hw => exact zRR.mono h hw
  | .inr (.inr (.inr j)), hw => exact hw
theorem zRR.cat {ws : va_W} : ∀ {a : Nat} {w : Value}, zRR ws a w → w.category = 1
  | 0, _, h => by rw [h]; rfl
  | b + 1, _, ⟨q, _, h⟩ => by rw [h]; rfl
theorem zVR.cat {pa : Nat → Nat} {ws : va_W} {v : zV} {w : Value} (h : zVR pa ws v w) : w.category = zcat v := by
  match v, h with
  | .inl z, ⟨x, h, _⟩ => rw [h]; rfl
  | .inr (.inl z), ⟨x, h, _⟩ => rw [h]; rfl
  | .inr (.inr (.inl a)), h => rw [zRR.cat h]; rfl
  | .inr (.inr (.inr j)), h => rw [show w = .ref (pa j) from h]; rfl
/-- a stack -/
def zSR (pa : Nat → Nat) (ws : va_W) : List zV → List Value → Prop
  | [], m => m = []
  | v :: st, m => ∃ w m', m = w :: m' ∧ zVR pa ws v w ∧ zSR pa ws st m'
theorem zSR.mono {pa : Nat → Nat} {ws ws' : va_W} (h : zext ws ws') : ∀ {st : List zV} {m : List Value}, zSR pa ws st m → zSR pa ws' st m
  | [], _, hm => hm
  | v :: st, _, ⟨w, m', h1, h2, h3⟩ => ⟨w, m', h1, h2.mono h, zSR.mono h h3⟩
theorem zSR.sum {pa : Nat → Nat} {ws : va_W} : ∀ {st : List zV} {m : List Value}, zSR pa ws st m → (m.map fun v => v.category).sum = (st.map zcat).sum
  | [], _, hm => by rw [show _ = [] from hm]; rfl
  | v :: st, _, ⟨w, m', h1, h2, h3⟩ => by
    rw [h1, List.map_cons, List.sum_cons, List.map_cons, List.sum_cons, zSR.sum h3, h2.cat]
theorem zSR.app {pa : Nat → Nat} {ws : va_W} : ∀ {st st2 : List zV} {m : List Value}, zSR pa ws (st ++ st2) m → ∃ m1 m2, m = m1 ++ m2 ∧ zSR pa ws st m1 ∧ zSR pa ws st2 m2
  | [], _, m, h => ⟨[], m, rfl, rfl, h⟩
  | v :: st, st2, _, ⟨w, m', h1, h2, h3⟩ => by
    obtain ⟨m1, m2, g1, g2, g3⟩ := zSR.app h3
    exact ⟨w :: m1, m2, by rw [h1, g1]; rfl, ⟨w, m1, rfl, h2, g2⟩, g3⟩
theorem zSR.join {pa : Nat → Nat} {ws : va_W} : ∀ {st st2 : List zV} {m1 m2 : List Value}, zSR pa ws st m1 → zSR pa ws st2 m2 → zSR pa ws (st ++ st2) (m1 ++ m2)
  | [], _, _, m2, h, h2 => by rw [show _ = [] from h]; exact h2
  | v :: st, st2, _, m2, ⟨w, m', h1, h2, h3⟩, h4 => by
    rw [h1]
    exact ⟨w, m' ++ m2, rfl, h2, zSR.join h3 h4⟩
theorem zSR.len {pa : Nat → Nat} {ws : va_W} : ∀ {st : List zV} {m : List Value}, zSR pa ws st m → m.length = st.length
  | [], _, h => by rw [show _ = [] from h]; rfl
  | v :: st, _, ⟨w, m', h1, h2, h3⟩ => by rw [h1, List.length_cons, List.length_cons, zSR.len h3]
theorem zSR.rev {pa : Nat → Nat} {ws : va_W} : ∀ {st : List zV} {m : List Value}, zSR pa ws st m → zSR pa ws st.reverse m.reverse
  | [], _, h => by rw [show _ = [] from h]; rfl
  | v :: st, _, ⟨w, m', h1, h2, h3⟩ => by
    rw [h1, List.reverse_cons, List.reverse_cons]
    exact zSR.join (zSR.rev h3) ⟨w, [], rfl, h2, rfl⟩
/-- locals -/
def zLR (pa : Nat → Nat) (ws : va_W) (ls : zLoc) (m : Array Slot) : Prop := m.size = ls.length ∧ lv_wf m ∧ ∀ (i : Nat) (v : zV), ls[i]? = some (some v) → ∃ w, zVR pa ws v w ∧ m[i]? = some (.val w)
theorem zLR.mono {pa : Nat → Nat} {ws ws' : va_W} (h : zext ws ws') {ls : zLoc} {m : Array Slot} (hl : zLR pa ws ls m) : zLR pa ws' ls m := ⟨hl.1, hl.2.1, fun i v hv => by
  obtain ⟨w, h1, h2⟩ := hl.2.2 i v hv
  exact ⟨w, h1.mono h, h2⟩⟩
/-- all that the locals hold -/
def zfull (m : Array Slot) : List (Nat × Value) := (List.range m.size).filterMap (fun j => match (m[j]? : Option Slot) with
  | some (Slot.val w) => some (j, w)
  | _ => none)
theorem zfull_mem {m : Array Slot} {q : Nat × Value} : q ∈ zfull m ↔ m[q.1]? = some (.val q.2) := by
  unfold zfull
  rw [List.mem_filterMap]
  constructor
  · rintro ⟨j, -, h⟩
    split at h
    · next w hw => cases h; exact hw
    · cases h
  · intro h
    refine ⟨q.1, List.mem_range.mpr (Array.getElem?_eq_some_iff.mp h).1, ?_⟩
    rw [h]
theorem zLR.has {pa : Nat → Nat} {ws : va_W} {ls : zLoc} {m : Array Slot} (h : zLR pa ws ls m) : lv_has m ls.length (zfull m) := ⟨h.1, h.2.1, fun q hq => zfull_mem.mp hq⟩
theorem zkill_len (ls : zLoc) (i : Nat) : (zkill ls i).length = ls.length := by
  unfold zkill
  split
  · rfl
  · split
    · simp
    · rfl
theorem zkill_get {ls : zLoc} {i j : Nat} {v : zV} (h : (zkill ls i)[j]? = some (some v)) : ls[j]? = some (some v) ∧ ¬ (j + 1 = i ∧ zcat v = 2) := by
  unfold zkill at h
  split at h
  · exact ⟨h, fun q => by omega⟩
  · next j0 =>
    split at h
    · next z hz =>
      by_cases e : j = j0
      · subst e
        rw [List.getElem?_set_self (List.getElem?_eq_some_iff.mp hz).1] at h
        cases h
      · rw [List.getElem?_set_ne (Ne.symm e)] at h
        exact ⟨h, fun q => e (by omega)⟩
    · next hz =>
      refine ⟨h, fun q => ?_⟩
      have e : j = j0 := by omega
      subst e
      match v, q.2 with
      | .inr (.inl z), _ => exact hz z h
/-- storing a value of one word -/
theorem zLR.put1 {pa : Nat → Nat} {ws : va_W} {ls : zLoc} {m m' : Array Slot} {i : Nat} {v : zV} {w : Value} (h : zLR pa ws ls m) (hi : i < ls.length) (hv : zVR pa ws v w) (h' : lv_has m' ls.length ((i, w) :: (zfull m).filter (fun q => !(q.1 == i) && !(q.1 + 1 == i && q.2.category == 2)))) : zLR pa ws ((zkill ls i).set i (some v)) m' := by
  refine ⟨by rw [List.length_set, zkill_len]; exact h'.1, h'.2.1, fun j u hu => ?_⟩
  by_cases e : j = i
  · subst e
    rw [List.getElem?_set_self (by rw [zkill_len]; exact hi)] at hu
    cases hu
    exact ⟨w, hv, h'.2.2 (j, w) List.mem_cons_self⟩
  · rw [List.getElem?_set_ne (Ne.symm e)] at hu
    obtain ⟨h1, h2⟩ := zkill_get hu
    obtain ⟨w', h3, h4⟩ := h.2.2 j u h1
    refine ⟨w', h3, h'.2.2 (j, w') (List.mem_cons_of_mem _ (List.mem_filter.mpr ⟨zfull_mem.mpr h4, ?_⟩))⟩
    have hc := h3.cat
    simp only [Bool.and_eq_true, Bool.not_eq_true', beq_eq_false_iff_ne, ne_eq, Bool.and_eq_false_iff]
    refine ⟨e, ?_⟩
    by_cases e2 : j + 1 = i
    · exact Or.inr (fun q => h2 ⟨e2, by rw [← hc]; exact q⟩)
    · exact Or.inl e2
theorem zLR.put2 {pa : Nat → Nat} {ws : va_W} {ls : zLoc} {m m' : Array Slot} {i : Nat} {v : zV} {w : Value} (h : zLR pa ws ls m) (hi : i + 1 < ls.length) (hv : zVR pa ws v w) (h' : lv_has m' ls.length ((i, w) :: (zfull m).filter (fun q => !(q.1 == i) && (!(q.1 == i + 1) && !(q.1 + 1 == i && q.2.category == 2))))) : zLR pa ws (((zkill ls i).set i (some v)).set (i + 1) none) m' := by
  refine ⟨by rw [List.length_set, List.length_set, zkill_len]; exact h'.1, h'.2.1, fun j u hu => ?_⟩
  by_cases e0 : j = i + 1
  · subst e0
    rw [List.getElem?_set_self (by rw [List.length_set, zkill_len]; exact hi)] at hu
    cases hu
  rw [List.getElem?_set_ne (Ne.symm e0)] at hu
  by_cases e : j = i
  · subst e
    rw [List.getElem?_set_self (by rw [zkill_len]; omega)] at hu
    cases hu
    exact ⟨w, hv, h'.2.2 (j, w) List.mem_cons_self⟩
  · rw [List.getElem?_set_ne (Ne.symm e)] at hu
    obtain ⟨h1, h2⟩ := zkill_get hu
    obtain ⟨w', h3, h4⟩ := h.2.2 j u h1
    refine ⟨w', h3, h'.2.2 (j, w') (List.mem_cons_of_mem _ (List.mem_filter.mpr ⟨zfull_mem.mpr h4, ?_⟩))⟩
    have hc := h3.cat
    simp only [Bool.and_eq_true, Bool.not_eq_true', beq_eq_false_iff_ne, ne_eq, Bool.and_eq_false_iff]
    refine ⟨e, e0, ?_⟩
    by_cases e2 : j + 1 = i
    · exact Or.inr (fun q => h2 ⟨e2, by rw [← hc]; exact q⟩)
    · exact Or.inl e2
/-- what a field holds, by its type -/
def zFR (ws : va_W) (t : FieldType) (i : Int) (r : Nat) (w : Value) : Prop := match t with
  | .int => ∃ x : Int32, w = .int x ∧ x.toInt = i
  | .boolean => ∃ x : Int32, w = .int x ∧ x.toInt = i
  | .long => ∃ x : Int64, w = .long x ∧ x.toInt = i
  | _ => zRR ws r w
theorem zFR.mono {ws ws' : va_W} (h : zext ws ws') {t : FieldType} {i : Int} {r : Nat} {w : Value} (hw : zFR ws t i r w) : zFR ws' t i r w := by
  cases t <;> first | exact hw | exact zRR.mono h hw
/-- what a cell holds, by its kind -/
def zCR (ws : va_W) (tys : List (ClassId × FieldType)) (k : Nat × (Nat × Nat)) (I : Nat → Int) (R : Nat → Nat) (e : va_E) : Prop := match k.1 with
  | 0 => True
  | 1 => k.2.1 < 11 ∧ ∃ fs : List Value, e = .inr (k.2.1, fs) ∧ fs.length = znf k.2.1 ∧ ∀ (j : Nat) (v : Value), fs[j]? = some v → zFR ws (zty k.2.1 j) (I j) (R j) v
  | 2 => ∃ (t : Nat) (cA : ClassId) (f : Nat → Int32), tys[t]? = some (cA, .int) ∧ e = .inl (cA, (k.2.1, .inl f)) ∧ ∀ j, j < k.2.1 → (f j).toInt = I j
  | 3 => ∃ (t : Nat) (cA : ClassId) (f : Nat → Int64), tys[t]? = some (cA, .long) ∧ e = .inl (cA, (k.2.1, .inr (.inl f))) ∧ ∀ j, j < k.2.1 → (f j).toInt = I j
  | 4 => ∃ (t : Nat) (cA : ClassId) (f : Nat → Int32), tys[t]? = some (cA, .byte) ∧ e = .inl (cA, (k.2.1, .inl f)) ∧ ∀ j, j < k.2.1 → (f j).toInt = I j
  | 5 => ∃ (t : Nat) (cA : ClassId) (f : Nat → Option Nat), tys[t]? = some (cA, .object (znm k.2.2)) ∧ e = .inl (cA, (k.2.1, .inr (.inr (.inr (.inr f))))) ∧ ∀ j, j < k.2.1 → zRR ws (R j) (va_rf (f j))
  | 6 => ∃ (t : Nat) (cA : ClassId) (f : Nat → Option Nat), tys[t]? = some (cA, .array .long) ∧ e = .inl (cA, (k.2.1, .inr (.inr (.inr (.inr f))))) ∧ ∀ j, j < k.2.1 → zRR ws (R j) (va_rf (f j))
  | _ => False
theorem zCR.mono {ws ws' : va_W} {tys tys' : List (ClassId × FieldType)} (h : zext ws ws') (ht : ∀ (t : Nat) (q : ClassId × FieldType), tys[t]? = some q → tys'[t]? = some q) {k : Nat × (Nat × Nat)} {I : Nat → Int} {R : Nat → Nat} {e : va_E} (hc : zCR ws tys k I R e) : zCR ws' tys' k I R e := by
  unfold zCR at hc ⊢
  split at hc
  · trivial
  · obtain ⟨h0, fs, h1, h2, h3⟩ := hc
    exact ⟨h0, fs, h1, h2, fun j v hv => (h3 j v hv).mono h⟩
  · obtain ⟨t, cA, f, h1, h2⟩ := hc
    exact ⟨t, cA, f, ht _ _ h1, h2⟩
  · obtain ⟨t, cA, f, h1, h2⟩ := hc
    exact ⟨t, cA, f, ht _ _ h1, h2⟩
  · obtain ⟨t, cA, f, h1, h2⟩ := hc
    exact ⟨t, cA, f, ht _ _ h1, h2⟩
  · obtain ⟨t, cA, f, h1, h2, h3⟩ := hc
    exact ⟨t, cA, f, ht _ _ h1, h2, fun j hj => zRR.mono h (h3 j hj)⟩
  · obtain ⟨t, cA, f, h1, h2, h3⟩ := hc
    exact ⟨t, cA, f, ht _ _ h1, h2, fun j hj => zRR.mono h (h3 j hj)⟩
  · exact hc
/-- the heap -/
def zRel (σ : zMem) (ws : va_W) (tys : List (ClassId × FieldType)) : Prop := ws.length = σ.2.2.2.1 ∧ σ.2.2.1 0 = (0, (0, 0)) ∧ ∀ (b : Nat) (q : Nat × va_E), ws[b]? = some q → zCR ws tys (σ.2.2.1 (b + 1)) (σ.1 (b + 1)) (σ.2.1 (b + 1)) q.2
/-- one number of a cell is changed -/
theorem zRel.setI {σ : zMem} {ws : va_W} {tys : List (ClassId × FieldType)} {b a j : Nat} {e e' : va_E} {v : Int} (h : zRel σ ws tys) (hb : ws[b]? = some (a, e)) (hc : zCR ws tys (σ.2.2.1 (b + 1)) (fun j' => if j' = j then v else σ.1 (b + 1) j') (σ.2.1 (b + 1)) e') : zRel (zw σ (b + 1) j v) (ws.set b (a, e')) tys := by
  refine ⟨by rw [List.length_set]; exact h.1, h.2.1, fun b' q hq => ?_⟩
  have hx := zext.set (e' := e') hb
  by_cases hbb : b' = b
  · subst hbb
    rw [List.getElem?_set_self (List.getElem?_eq_some_iff.mp hb).1] at hq
    cases hq
    have := hc.mono hx (fun _ _ h => h)
    simpa [zw] using this
  · rw [List.getElem?_set_ne (Ne.symm hbb)] at hq
    have := (h.2.2 b' q hq).mono hx (fun _ _ h => h)
    have e1 : (zw σ (b + 1) j v).1 (b' + 1) = σ.1 (b' + 1) := by
      funext j'
      show (if b' + 1 = b + 1 ∧ j' = j then v else σ.1 (b' + 1) j') = _
      rw [if_neg (fun q => hbb (by omega))]
    rw [e1]
    exact this
theorem zRel.setR {σ : zMem} {ws : va_W} {tys : List (ClassId × FieldType)} {b a j : Nat} {e e' : va_E} {v : Nat} (h : zRel σ ws tys) (hb : ws[b]? = some (a, e)) (hc : zCR ws tys (σ.2.2.1 (b + 1)) (σ.1 (b + 1)) (fun j' => if j' = j then v else σ.2.1 (b + 1) j') e') : zRel (zwr σ (b + 1) j v) (ws.set b (a, e')) tys := by
  refine ⟨by rw [List.length_set]; exact h.1, h.2.1, fun b' q hq => ?_⟩
  have hx := zext.set (e' := e') hb
  by_cases hbb : b' = b
  · subst hbb
    rw [List.getElem?_set_self (List.getElem?_eq_some_iff.mp hb).1] at hq
    cases hq
    have := hc.mono hx (fun _ _ h => h)
    simpa [zwr] using this
  · rw [List.getElem?_set_ne (Ne.symm hbb)] at hq
    have := (h.2.2 b' q hq).mono hx (fun _ _ h => h)
    have e1 : (zwr σ (b + 1) j v).2.1 (b' + 1) = σ.2.1 (b' + 1) := by
      funext j'
      show (if b' + 1 = b + 1 ∧ j' = j then v else σ.2.1 (b' + 1) j') = _
      rw [if_neg (fun q => hbb (by omega))]
    rw [e1]
    exact this
/-- a cell more -/
theorem zRel.make {σ : zMem} {ws : va_W} {tys tys' : List (ClassId × FieldType)} {a n : Nat} {e : va_E} {k : Nat × (Nat × Nat)} (h : zRel σ ws tys) (ht : ∀ (t : Nat) (q : ClassId × FieldType), tys[t]? = some q → tys'[t]? = some q) (hc : zCR (ws ++ [(a, e)]) tys' k (fun _ => 0) (fun _ => 0) e) : zRel (zmake σ k n) (ws ++ [(a, e)]) tys' := by
  refine ⟨by rw [List.length_append, h.1]; rfl, ?_, fun b q hq => ?_⟩
  · show (if 0 = σ.2.2.2.1 + 1 then k else σ.2.2.1 0) = _
    rw [if_neg (by omega)]
    exact h.2.1
  · by_cases hb : b < ws.length
    · rw [List.getElem?_append_left hb] at hq
      have h1 := (h.2.2 b q hq).mono (zext.app ws [(a, e)]) ht
      have hne : ¬ b + 1 = σ.2.2.2.1 + 1 := by rw [← h.1]; omega
      have e1 : (zmake σ k n).1 (b + 1) = σ.1 (b + 1) := by funext j; show (if b + 1 = σ.2.2.2.1 + 1 then 0 else σ.1 (b + 1) j) = _; rw [if_neg hne]
      have e2 : (zmake σ k n).2.1 (b + 1) = σ.2.1 (b + 1) := by funext j; show (if b + 1 = σ.2.2.2.1 + 1 then 0 else σ.2.1 (b + 1) j) = _; rw [if_neg hne]
      have e3 : (zmake σ k n).2.2.1 (b + 1) = σ.2.2.1 (b + 1) := by show (if b + 1 = σ.2.2.2.1 + 1 then k else σ.2.2.1 (b + 1)) = _; rw [if_neg hne]
      rw [e1, e2, e3]
      exact h1
    · rw [List.getElem?_append_right (by omega)] at hq
      have h0 : b - ws.length < 1 := (List.getElem?_eq_some_iff.mp hq).1
      have hbe : b = ws.length := by omega
      subst hbe
      rw [Nat.sub_self] at hq
      cases hq
      have hne : ws.length + 1 = σ.2.2.2.1 + 1 := by rw [← h.1]
      have e1 : (zmake σ k n).1 (ws.length + 1) = fun _ => 0 := by funext j; show (if ws.length + 1 = σ.2.2.2.1 + 1 then 0 else σ.1 _ j) = _; rw [if_pos hne]
      have e2 : (zmake σ k n).2.1 (ws.length + 1) = fun _ => 0 := by funext j; show (if ws.length + 1 = σ.2.2.2.1 + 1 then 0 else σ.2.1 _ j) = _; rw [if_pos hne]
      have e3 : (zmake σ k n).2.2.1 (ws.length + 1) = k := by show (if ws.length + 1 = σ.2.2.2.1 + 1 then k else σ.2.2.1 _) = _; rw [if_pos hne]
      rw [e1, e2, e3]
      exact hc
/-- what a reference's cell is -/
theorem zRel.at {σ : zMem} {ws : va_W} {tys : List (ClassId × FieldType)} {a : Nat} {w : Value} (h : zRel σ ws tys) (hw : zRR ws a w) (hk : ¬ (σ.2.2.1 a).1 = 0) : ∃ b q e, a = b + 1 ∧ ws[b]? = some (q, e) ∧ w = .ref q ∧ zCR ws tys (σ.2.2.1 (b + 1)) (σ.1 (b + 1)) (σ.2.1 (b + 1)) e := by
  match a, hw with
  | 0, _ => exact absurd (by rw [h.2.1]) hk
  | b + 1, ⟨q, h1, h2⟩ => exact ⟨b, q.1, q.2, rfl, h1, h2, h.2.2 b q h1⟩
end
section
/-! ONE STEP OF THE SMALL MACHINE IS ONE INSTRUCTION OF THE MACHINE: steps that leave the heap. -/
/-- from a place of the small machine the machine comes to its end; rf is the small heap in the end, σ0 the one of the method's entry -/
def zG (p : Program) (l : Launch) (e : Env) (R : Room) (s : State) (m : MethodId) (args : Array Value) (below : List Frame) (meth : Method) (c : Code) (Q : State → Prop) (D : va_G) (A : Nat → Prop) (pa : Nat → Nat) (ws0 : va_W) (σ0 rf : zMem) (pc : Nat) (ls : zLoc) (st : List zV) (σ : zMem) : Prop :=
  (σ.2.2.2.1 ≤ rf.2.2.2.1 ∧ σ.2.2.2.2 ≤ rf.2.2.2.2) ∧ ∀ (ws : va_W) (tys : List (ClassId × FieldType)) (H : Heap) (locs : List Loc) (mls : Array Slot) (mst : List Value), (σ0.2.2.2.1 ≤ σ.2.2.2.1 ∧ σ0.2.2.2.2 ≤ σ.2.2.2.2) → va_K D zcl tys s → zRel σ ws tys → va_P D zcl ws H → va_D A ws → va_S A s.heap H locs → zext ws0 ws → zLR pa ws ls mls → zSR pa ws st mst →
    W p l e R s m args below meth c H locs (σ.2.2.2.1 - σ0.2.2.2.1) (σ.2.2.2.2 - σ0.2.2.2.2) Q (F0 m pc mls mst)
section ZOPS
variable {p : Program} {l : Launch} {e : Env} {R : Room} {s : State} {m : MethodId} {args : Array Value} {below : List Frame} {meth : Method} {c : Code} {cc : ByteArray} {Q : State → Prop} {D : va_G} {A : Nat → Prop} {pa : Nat → Nat} {ws0 : va_W} {σ0 rf : zMem}
theorem zG_step {pc pc' : Nat} {ls ls' : zLoc} {st st' : List zV} {σ : zMem} (h : zG p l e R s m args below meth c Q D A pa ws0 σ0 rf pc' ls' st' σ) (hs : ∀ (ws : va_W) (H : Heap) (locs : List Loc) (cells slots : Nat) (mls : Array Slot) (mst : List Value), va_S A s.heap H locs → zLR pa ws ls mls → zSR pa ws st mst → (∀ (mls' : Array Slot) (mst' : List Value), zLR pa ws ls' mls' → zSR pa ws st' mst' → W p l e R s m args below meth c H locs cells slots Q (F0 m pc' mls' mst')) → W p l e R s m args below meth c H locs cells slots Q (F0 m pc mls mst)) : zG p l e R s m args below meth c Q D A pa ws0 σ0 rf pc ls st σ :=
  ⟨h.1, fun ws tys H locs mls mst hn hK hR hP hD hS hxx hl hst => hs ws H locs _ _ mls mst hS hl hst (fun mls' mst' hl' hs' => h.2 ws tys H locs mls' mst' hn hK hR hP hD hS hxx hl' hs')⟩
theorem zSR_int {ws : va_W} {x : Int32} {z : Int} {st : List zV} {mst : List Value} (hz : x.toInt = z) (h : zSR pa ws st mst) : zSR pa ws (.inl z :: st) (.int x :: mst) := ⟨_, _, rfl, ⟨_, rfl, hz⟩, h⟩
theorem zSR_long {ws : va_W} {x : Int64} {z : Int} {st : List zV} {mst : List Value} (hz : x.toInt = z) (h : zSR pa ws st mst) : zSR pa ws (.inr (.inl z) :: st) (.long x :: mst) := ⟨_, _, rfl, ⟨_, rfl, hz⟩, h⟩
variable {pc nx : Nat} {ls : zLoc} {st : List zV} {σ : zMem} {k : zK} {X : zX} {C : zC} {rv : Option zV}
theorem zs_iconst (hx : p.tables.exec = Jvm.exec) (hb : c.code = cc) {n : Int} (hd : decode cc pc = .ok (.iconst n, 1)) (h1 : -1 ≤ n ∧ n ≤ 5) (hk : ∀ pc ls st σ, k pc ls st σ = some (rv, rf) → zG p l e R s m args below meth c Q D A pa ws0 σ0 rf pc ls st σ) (h : zstep X C (.iconst n) ls st σ (pc + 1) k = some (rv, rf)) : zG p l e R s m args below meth c Q D A pa ws0 σ0 rf pc ls st σ :=
  zG_step (hk _ _ _ _ h) (fun ws H locs cells slots mls mst hS hl hs kk => lv_iconst hx hb hd rfl (kk mls _ hl (zSR_int (zn_ofIntIn (by omega) (by omega)) hs)))
theorem zs_bipush (hx : p.tables.exec = Jvm.exec) (hb : c.code = cc) {n : Int} (hd : decode cc pc = .ok (.bipush n, 2)) (h1 : -128 ≤ n ∧ n < 128) (hk : ∀ pc ls st σ, k pc ls st σ = some (rv, rf) → zG p l e R s m args below meth c Q D A pa ws0 σ0 rf pc ls st σ) (h : zstep X C (.iconst n) ls st σ (pc + 2) k = some (rv, rf)) : zG p l e R s m args below meth c Q D A pa ws0 σ0 rf pc ls st σ :=
  zG_step (hk _ _ _ _ h) (fun ws H locs cells slots mls mst hS hl hs kk => lv_bipush hx hb hd rfl (kk mls _ hl (zSR_int (by rw [Int8.toInt_toInt32, Int8.toInt_ofInt, zn_w8]; unfold w8; omega) hs)))
theorem zs_sipush (hx : p.tables.exec = Jvm.exec) (hb : c.code = cc) {n : Int} (hd : decode cc pc = .ok (.sipush n, 3)) (h1 : -32768 ≤ n ∧ n < 32768) (hk : ∀ pc ls st σ, k pc ls st σ = some (rv, rf) → zG p l e R s m args below meth c Q D A pa ws0 σ0 rf pc ls st σ) (h : zstep X C (.iconst n) ls st σ (pc + 3) k = some (rv, rf)) : zG p l e R s m args below meth c Q D A pa ws0 σ0 rf pc ls st σ :=
  zG_step (hk _ _ _ _ h) (fun ws H locs cells slots mls mst hS hl hs kk => lv_sipush hx hb hd rfl (kk mls _ hl (zSR_int (by rw [Int16.toInt_toInt32, Int16.toInt_ofInt, zn_w16]; unfold w16; omega) hs)))
theorem zn_l01 : ∀ n : Fin 2, (Int64.ofNat (n : Nat)).toInt = ((n : Nat) : Int) := by decide +kernel
theorem zs_lconst (hx : p.tables.exec = Jvm.exec) (hb : c.code = cc) {n : Fin 2} (hd : decode cc pc = .ok (.lconst n, 1)) (hk : ∀ pc ls st σ, k pc ls st σ = some (rv, rf) → zG p l e R s m args below meth c Q D A pa ws0 σ0 rf pc ls st σ) (h : zstep X C (.sipush ((n : Nat) : Int)) ls st σ (pc + 1) k = some (rv, rf)) : zG p l e R s m args below meth c Q D A pa ws0 σ0 rf pc ls st σ :=
  zG_step (hk _ _ _ _ h) (fun ws H locs cells slots mls mst hS hl hs kk => lv_lconst hx hb hd rfl (kk mls _ hl (zSR_long (zn_l01 n) hs)))
theorem zs_ldc (hx : p.tables.exec = Jvm.exec) (hb : c.code = cc) {own i : Nat} {n : Int} (hown : s.vm.findClass (znm own) = some m.cls) (hc : (Cond.constant (znm own) i (Int32.ofInt n)).before args s = true) (h1 : -2147483648 ≤ n ∧ n < 2147483648) (hd : decode cc pc = .ok (.ldc i, 2)) (hk : ∀ pc ls st σ, k pc ls st σ = some (rv, rf) → zG p l e R s m args below meth c Q D A pa ws0 σ0 rf pc ls st σ) (h : zstep X C (.iconst n) ls st σ (pc + 2) k = some (rv, rf)) : zG p l e R s m args below meth c Q D A pa ws0 σ0 rf pc ls st σ :=
  zG_step (hk _ _ _ _ h) (fun ws H locs cells slots mls mst hS hl hs kk => lv_ldc hx hb hown hc hd (kk mls _ hl (zSR_int (zn_ofIntIn h1.1 h1.2) hs)))
theorem zs_ldcw (hx : p.tables.exec = Jvm.exec) (hb : c.code = cc) {own i : Nat} {n : Int} (hown : s.vm.findClass (znm own) = some m.cls) (hc : (Cond.constant (znm own) i (Int32.ofInt n)).before args s = true) (h1 : -2147483648 ≤ n ∧ n < 2147483648) (hd : decode cc pc = .ok (.ldc_w i, 3)) (hk : ∀ pc ls st σ, k pc ls st σ = some (rv, rf) → zG p l e R s m args below meth c Q D A pa ws0 σ0 rf pc ls st σ) (h : zstep X C (.iconst n) ls st σ (pc + 3) k = some (rv, rf)) : zG p l e R s m args below meth c Q D A pa ws0 σ0 rf pc ls st σ :=
  zG_step (hk _ _ _ _ h) (fun ws H locs cells slots mls mst hS hl hs kk => lv_ldcw hx hb hown hc hd (kk mls _ hl (zSR_int (zn_ofIntIn h1.1 h1.2) hs)))
theorem zs_ldc2 (hx : p.tables.exec = Jvm.exec) (hb : c.code = cc) {own i : Nat} {n : Int} (hown : s.vm.findClass (znm own) = some m.cls) (hc : (Cond.constantLong (znm own) i (Int64.ofInt n)).before args s = true) (h1 : -9223372036854775808 ≤ n ∧ n < 9223372036854775808) (hd : decode cc pc = .ok (.ldc2_w i, 3)) (hk : ∀ pc ls st σ, k pc ls st σ = some (rv, rf) → zG p l e R s m args below meth c Q D A pa ws0 σ0 rf pc ls st σ) (h : zstep X C (.sipush n) ls st σ (pc + 3) k = some (rv, rf)) : zG p l e R s m args below meth c Q D A pa ws0 σ0 rf pc ls st σ :=
  zG_step (hk _ _ _ _ h) (fun ws H locs cells slots mls mst hS hl hs kk => lv_ldc2 hx hb hown hc hd (kk mls _ hl (zSR_long (by rw [Int64.toInt_ofInt, zn_w64]; exact zn_w64id h1.1 h1.2) hs)))
theorem zs_iload (hx : p.tables.exec = Jvm.exec) (hb : c.code = cc) {i : Nat} (hd : decode cc pc = .ok (.iload i, 2)) (hk : ∀ pc ls st σ, k pc ls st σ = some (rv, rf) → zG p l e R s m args below meth c Q D A pa ws0 σ0 rf pc ls st σ) (h : zstep X C (.iload i) ls st σ (pc + 2) k = some (rv, rf)) : zG p l e R s m args below meth c Q D A pa ws0 σ0 rf pc ls st σ := by
  simp only [zstep] at h
  split at h
  · next z hz =>
    exact zG_step (hk _ _ _ _ h) (fun ws H locs cells slots mls mst hS hl hs kk => by
      obtain ⟨w, ⟨x, rfl, hx'⟩, hw⟩ := hl.2.2 _ _ hz
      exact lv_iload hx hb hd hw (kk mls _ hl (zSR_int hx' hs)))
  · cases h
theorem zs_iload_n (hx : p.tables.exec = Jvm.exec) (hb : c.code = cc) {i : Fin 4} (hd : decode cc pc = .ok (.iload_n i, 1)) (hk : ∀ pc ls st σ, k pc ls st σ = some (rv, rf) → zG p l e R s m args below meth c Q D A pa ws0 σ0 rf pc ls st σ) (h : zstep X C (.iload i) ls st σ (pc + 1) k = some (rv, rf)) : zG p l e R s m args below meth c Q D A pa ws0 σ0 rf pc ls st σ := by
  simp only [zstep] at h
  split at h
  · next z hz =>
    exact zG_step (hk _ _ _ _ h) (fun ws H locs cells slots mls mst hS hl hs kk => by
      obtain ⟨w, ⟨x, rfl, hx'⟩, hw⟩ := hl.2.2 _ _ hz
      exact lv_iload_n hx hb hd rfl hw (kk mls _ hl (zSR_int hx' hs)))
  · cases h
theorem zs_lload (hx : p.tables.exec = Jvm.exec) (hb : c.code = cc) {i : Nat} (hd : decode cc pc = .ok (.lload i, 2)) (hk : ∀ pc ls st σ, k pc ls st σ = some (rv, rf) → zG p l e R s m args below meth c Q D A pa ws0 σ0 rf pc ls st σ) (h : zstep X C (.lload i) ls st σ (pc + 2) k = some (rv, rf)) : zG p l e R s m args below meth c Q D A pa ws0 σ0 rf pc ls st σ := by
  simp only [zstep] at h
  split at h
  · next z hz =>
    exact zG_step (hk _ _ _ _ h) (fun ws H locs cells slots mls mst hS hl hs kk => by
      obtain ⟨w, ⟨x, rfl, hx'⟩, hw⟩ := hl.2.2 _ _ hz
      exact lv_lload hx hb hd hw (kk mls _ hl (zSR_long hx' hs)))
  · cases h
theorem zs_lload_n (hx : p.tables.exec = Jvm.exec) (hb : c.code = cc) {i : Fin 4} (hd : decode cc pc = .ok (.lload_n i, 1)) (hk : ∀ pc ls st σ, k pc ls st σ = some (rv, rf) → zG p l e R s m args below meth c Q D A pa ws0 σ0 rf pc ls st σ) (h : zstep X C (.lload i) ls st σ (pc + 1) k = some (rv, rf)) : zG p l e R s m args below meth c Q D A pa ws0 σ0 rf pc ls st σ := by
  simp only [zstep] at h
  split at h
  · next z hz =>
    exact zG_step (hk _ _ _ _ h) (fun ws H locs cells slots mls mst hS hl hs kk => by
      obtain ⟨w, ⟨x, rfl, hx'⟩, hw⟩ := hl.2.2 _ _ hz
      exact lv_lload_n hx hb hd rfl hw (kk mls _ hl (zSR_long hx' hs)))
  · cases h
theorem zVR.ref {ws : va_W} {w : Value} : ∀ {z : Nat ⊕ Nat}, zVR pa ws (.inr (.inr z)) w → w = .null ∨ ∃ a, w = .ref a
  | .inl 0, h => Or.inl h
  | .inl (b + 1), ⟨q, _, h⟩ => Or.inr ⟨_, h⟩
  | .inr j, h => Or.inr ⟨_, h⟩
theorem zs_aload (hx : p.tables.exec = Jvm.exec) (hb : c.code = cc) {i : Nat} (hd : decode cc pc = .ok (.aload i, 2)) (hk : ∀ pc ls st σ, k pc ls st σ = some (rv, rf) → zG p l e R s m args below meth c Q D A pa ws0 σ0 rf pc ls st σ) (h : zstep X C (.aload i) ls st σ (pc + 2) k = some (rv, rf)) : zG p l e R s m args below meth c Q D A pa ws0 σ0 rf pc ls st σ := by
  simp only [zstep] at h
  split at h
  · next z hz =>
    exact zG_step (hk _ _ _ _ h) (fun ws H locs cells slots mls mst hS hl hs kk => by
      obtain ⟨w, hv, hw⟩ := hl.2.2 _ _ hz
      rcases hv.ref with rfl | ⟨a, rfl⟩
      · exact lv_aloadN hx hb hd hw (kk mls _ hl ⟨_, _, rfl, hv, hs⟩)
      · exact lv_aload hx hb hd hw (kk mls _ hl ⟨_, _, rfl, hv, hs⟩))
  · cases h
theorem zs_aload_n (hx : p.tables.exec = Jvm.exec) (hb : c.code = cc) {i : Fin 4} (hd : decode cc pc = .ok (.aload_n i, 1)) (hk : ∀ pc ls st σ, k pc ls st σ = some (rv, rf) → zG p l e R s m args below meth c Q D A pa ws0 σ0 rf pc ls st σ) (h : zstep X C (.aload i) ls st σ (pc + 1) k = some (rv, rf)) : zG p l e R s m args below meth c Q D A pa ws0 σ0 rf pc ls st σ := by
  simp only [zstep] at h
  split at h
  · next z hz =>
    exact zG_step (hk _ _ _ _ h) (fun ws H locs cells slots mls mst hS hl hs kk => by
      obtain ⟨w, hv, hw⟩ := hl.2.2 _ _ hz
      rcases hv.ref with rfl | ⟨a, rfl⟩
      · exact lv_aload_nN hx hb hd rfl hw (kk mls _ hl ⟨_, _, rfl, hv, hs⟩)
      · exact lv_aload_n hx hb hd rfl hw (kk mls _ hl ⟨_, _, rfl, hv, hs⟩))
  · cases h
theorem zs_istore (hx : p.tables.exec = Jvm.exec) (hb : c.code = cc) {i : Nat} (hd : decode cc pc = .ok (.istore i, 2)) (hk : ∀ pc ls st σ, k pc ls st σ = some (rv, rf) → zG p l e R s m args below meth c Q D A pa ws0 σ0 rf pc ls st σ) (h : zstep X C (.istore i) ls st σ (pc + 2) k = some (rv, rf)) : zG p l e R s m args below meth c Q D A pa ws0 σ0 rf pc ls st σ := by
  simp only [zstep] at h
  split at h
  · split at h
    · next z r hlt =>
      have hi : i < ls.length := Nat.blt_eq.mp hlt
      exact zG_step (hk _ _ _ _ h) (fun ws H locs cells slots mls mst hS hl hs kk => by
        obtain ⟨w, m', rfl, ⟨x, rfl, hx'⟩, hs'⟩ := hs
        exact lv_istore hx hb hd hl.has hi rfl (fun ls' h' => kk ls' _ (hl.put1 hi ⟨x, rfl, hx'⟩ h') hs'))
    · cases h
  · cases h
theorem zs_istore_n (hx : p.tables.exec = Jvm.exec) (hb : c.code = cc) {i : Fin 4} (hd : decode cc pc = .ok (.istore_n i, 1)) (hk : ∀ pc ls st σ, k pc ls st σ = some (rv, rf) → zG p l e R s m args below meth c Q D A pa ws0 σ0 rf pc ls st σ) (h : zstep X C (.istore i) ls st σ (pc + 1) k = some (rv, rf)) : zG p l e R s m args below meth c Q D A pa ws0 σ0 rf pc ls st σ := by
  simp only [zstep] at h
  split at h
  · split at h
    · next z r hlt =>
      have hi : (i : Nat) < ls.length := Nat.blt_eq.mp hlt
      exact zG_step (hk _ _ _ _ h) (fun ws H locs cells slots mls mst hS hl hs kk => by
        obtain ⟨w, m', rfl, ⟨x, rfl, hx'⟩, hs'⟩ := hs
        exact lv_istore_n hx hb hd rfl hl.has hi rfl (fun ls' h' => kk ls' _ (hl.put1 hi ⟨x, rfl, hx'⟩ h') hs'))
    · cases h
  · cases h
theorem zs_lstore (hx : p.tables.exec = Jvm.exec) (hb : c.code = cc) {i : Nat} (hd : decode cc pc = .ok (.lstore i, 2)) (hk : ∀ pc ls st σ, k pc ls st σ = some (rv, rf) → zG p l e R s m args below meth c Q D A pa ws0 σ0 rf pc ls st σ) (h : zstep X C (.lstore i) ls st σ (pc + 2) k = some (rv, rf)) : zG p l e R s m args below meth c Q D A pa ws0 σ0 rf pc ls st σ := by
  simp only [zstep] at h
  split at h
  · split at h
    · next z r hlt =>
      have hi : i + 1 < ls.length := Nat.blt_eq.mp hlt
      exact zG_step (hk _ _ _ _ h) (fun ws H locs cells slots mls mst hS hl hs kk => by
        obtain ⟨w, m', rfl, ⟨x, rfl, hx'⟩, hs'⟩ := hs
        exact lv_lstore hx hb hd hl.has hi rfl (fun ls' h' => kk ls' _ (hl.put2 hi ⟨x, rfl, hx'⟩ h') hs'))
    · cases h
  · cases h
theorem zs_lstore_n (hx : p.tables.exec = Jvm.exec) (hb : c.code = cc) {i : Fin 4} (hd : decode cc pc = .ok (.lstore_n i, 1)) (hk : ∀ pc ls st σ, k pc ls st σ = some (rv, rf) → zG p l e R s m args below meth c Q D A pa ws0 σ0 rf pc ls st σ) (h : zstep X C (.lstore i) ls st σ (pc + 1) k = some (rv, rf)) : zG p l e R s m args below meth c Q D A pa ws0 σ0 rf pc ls st σ := by
  simp only [zstep] at h
  split at h
  · split at h
    · next z r hlt =>
      have hi : (i : Nat) + 1 < ls.length := Nat.blt_eq.mp hlt
      exact zG_step (hk _ _ _ _ h) (fun ws H locs cells slots mls mst hS hl hs kk => by
        obtain ⟨w, m', rfl, ⟨x, rfl, hx'⟩, hs'⟩ := hs
        exact lv_lstore_n hx hb hd rfl hl.has hi rfl (fun ls' h' => kk ls' _ (hl.put2 hi ⟨x, rfl, hx'⟩ h') hs'))
    · cases h
  · cases h
theorem zs_astore (hx : p.tables.exec = Jvm.exec) (hb : c.code = cc) {i : Nat} (hd : decode cc pc = .ok (.astore i, 2)) (hk : ∀ pc ls st σ, k pc ls st σ = some (rv, rf) → zG p l e R s m args below meth c Q D A pa ws0 σ0 rf pc ls st σ) (h : zstep X C (.astore i) ls st σ (pc + 2) k = some (rv, rf)) : zG p l e R s m args below meth c Q D A pa ws0 σ0 rf pc ls st σ := by
  simp only [zstep] at h
  split at h
  · split at h
    · next z r hlt =>
      have hi : i < ls.length := Nat.blt_eq.mp hlt
      exact zG_step (hk _ _ _ _ h) (fun ws H locs cells slots mls mst hS hl hs kk => by
        obtain ⟨w, m', rfl, hv, hs'⟩ := hs
        rcases hv.ref with rfl | ⟨a, rfl⟩
        · exact lv_astoreN hx hb hd hl.has hi rfl (fun ls' h' => kk ls' _ (hl.put1 hi hv h') hs')
        · exact lv_astore hx hb hd hl.has hi rfl (fun ls' h' => kk ls' _ (hl.put1 hi hv h') hs'))
    · cases h
  · cases h
theorem zs_astore_n (hx : p.tables.exec = Jvm.exec) (hb : c.code = cc) {i : Fin 4} (hd : decode cc pc = .ok (.astore_n i, 1)) (hk : ∀ pc ls st σ, k pc ls st σ = some (rv, rf) → zG p l e R s m args below meth c Q D A pa ws0 σ0 rf pc ls st σ) (h : zstep X C (.astore i) ls st σ (pc + 1) k = some (rv, rf)) : zG p l e R s m args below meth c Q D A pa ws0 σ0 rf pc ls st σ := by
  simp only [zstep] at h
  split at h
  · split at h
    · next z r hlt =>
      have hi : (i : Nat) < ls.length := Nat.blt_eq.mp hlt
      exact zG_step (hk _ _ _ _ h) (fun ws H locs cells slots mls mst hS hl hs kk => by
        obtain ⟨w, m', rfl, hv, hs'⟩ := hs
        rcases hv.ref with rfl | ⟨a, rfl⟩
        · exact lv_astore_nN hx hb hd rfl hl.has hi rfl (fun ls' h' => kk ls' _ (hl.put1 hi hv h') hs')
        · exact lv_astore_n hx hb hd rfl hl.has hi rfl (fun ls' h' => kk ls' _ (hl.put1 hi hv h') hs'))
    · cases h
  · cases h
theorem zs_iinc (hx : p.tables.exec = Jvm.exec) (hb : c.code = cc) {i : Nat} {n : Int} (hd : decode cc pc = .ok (.iinc i n, 3)) (hk : ∀ pc ls st σ, k pc ls st σ = some (rv, rf) → zG p l e R s m args below meth c Q D A pa ws0 σ0 rf pc ls st σ) (h : zstep X C (.iinc i n) ls st σ (pc + 3) k = some (rv, rf)) : zG p l e R s m args below meth c Q D A pa ws0 σ0 rf pc ls st σ := by
  simp only [zstep] at h
  split at h
  · next z hz =>
    have hi : i < ls.length := (List.getElem?_eq_some_iff.mp hz).1
    exact zG_step (hk _ _ _ _ h) (fun ws H locs cells slots mls mst hS hl hs kk => by
      obtain ⟨w, ⟨x, rfl, hx'⟩, hw⟩ := hl.2.2 _ _ hz
      obtain ⟨j, hj⟩ := List.getElem?_of_mem (zfull_mem.mpr (show mls[(i, Value.int x).1]? = some (.val (i, Value.int x).2) from hw))
      refine lv_iinc hx hb hd hl.has hj rfl hi rfl (fun ls' h' => kk ls' _ (hl.put1 hi ⟨_, rfl, ?_⟩ h') hs)
      rw [zn_add, zn_ofInt, hx']
      unfold w32
      omega)
  · cases h
end ZOPS
end
section
/-! ONE STEP OF THE SMALL MACHINE IS ONE INSTRUCTION OF THE MACHINE: numbers, branches (written by program: wip/whole/mk07b.py). -/
section ZOPS2
variable {p : Program} {l : Launch} {e : Env} {R : Room} {s : State} {m : MethodId} {args : Array Value} {below : List Frame} {meth : Method} {c : Code} {cc : ByteArray} {Q : State → Prop} {D : va_G} {A : Nat → Prop} {pa : Nat → Nat} {ws0 : va_W} {σ0 rf : zMem}
variable {pc nx : Nat} {ls : zLoc} {st : List zV} {σ : zMem} {k : zK} {X : zX} {C : zC} {rv : Option zV}
theorem zs_iadd (hx : p.tables.exec = Jvm.exec) (hb : c.code = cc) (hd : decode cc pc = .ok (.iadd, 1)) (hk : ∀ pc ls st σ, k pc ls st σ = some (rv, rf) → zG p l e R s m args below meth c Q D A pa ws0 σ0 rf pc ls st σ) (h : zstep X C .iadd ls st σ (pc + 1) k = some (rv, rf)) : zG p l e R s m args below meth c Q D A pa ws0 σ0 rf pc ls st σ := by
  simp only [zstep] at h
  split at h
  · exact zG_step (hk _ _ _ _ h) (fun ws H locs cells slots mls mst hS hl hs kk => by
      obtain ⟨_, _, rfl, ⟨y, rfl, rfl⟩, _, m2, rfl, ⟨x, rfl, rfl⟩, hs⟩ := hs
      exact lv_iadd hx hb hd (kk mls _ hl (zSR_int (zn_add x y) hs)))
  · cases h
theorem zs_isub (hx : p.tables.exec = Jvm.exec) (hb : c.code = cc) (hd : decode cc pc = .ok (.isub, 1)) (hk : ∀ pc ls st σ, k pc ls st σ = some (rv, rf) → zG p l e R s m args below meth c Q D A pa ws0 σ0 rf pc ls st σ) (h : zstep X C .isub ls st σ (pc + 1) k = some (rv, rf)) : zG p l e R s m args below meth c Q D A pa ws0 σ0 rf pc ls st σ := by
  simp only [zstep] at h
  split at h
  · exact zG_step (hk _ _ _ _ h) (fun ws H locs cells slots mls mst hS hl hs kk => by
      obtain ⟨_, _, rfl, ⟨y, rfl, rfl⟩, _, m2, rfl, ⟨x, rfl, rfl⟩, hs⟩ := hs
      exact lv_isub hx hb hd (kk mls _ hl (zSR_int (zn_sub x y) hs)))
  · cases h
theorem zs_imul (hx : p.tables.exec = Jvm.exec) (hb : c.code = cc) (hd : decode cc pc = .ok (.imul, 1)) (hk : ∀ pc ls st σ, k pc ls st σ = some (rv, rf) → zG p l e R s m args below meth c Q D A pa ws0 σ0 rf pc ls st σ) (h : zstep X C .imul ls st σ (pc + 1) k = some (rv, rf)) : zG p l e R s m args below meth c Q D A pa ws0 σ0 rf pc ls st σ := by
  simp only [zstep] at h
  split at h
  · exact zG_step (hk _ _ _ _ h) (fun ws H locs cells slots mls mst hS hl hs kk => by
      obtain ⟨_, _, rfl, ⟨y, rfl, rfl⟩, _, m2, rfl, ⟨x, rfl, rfl⟩, hs⟩ := hs
      exact lv_imul hx hb hd (kk mls _ hl (zSR_int (zn_mul x y) hs)))
  · cases h
theorem zs_iand (hx : p.tables.exec = Jvm.exec) (hb : c.code = cc) (hd : decode cc pc = .ok (.iand, 1)) (hk : ∀ pc ls st σ, k pc ls st σ = some (rv, rf) → zG p l e R s m args below meth c Q D A pa ws0 σ0 rf pc ls st σ) (h : zstep X C .iand ls st σ (pc + 1) k = some (rv, rf)) : zG p l e R s m args below meth c Q D A pa ws0 σ0 rf pc ls st σ := by
  simp only [zstep] at h
  split at h
  · exact zG_step (hk _ _ _ _ h) (fun ws H locs cells slots mls mst hS hl hs kk => by
      obtain ⟨_, _, rfl, ⟨y, rfl, rfl⟩, _, m2, rfl, ⟨x, rfl, rfl⟩, hs⟩ := hs
      exact lv_iand hx hb hd (kk mls _ hl (zSR_int (zn_and x y) hs)))
  · cases h
theorem zs_ior (hx : p.tables.exec = Jvm.exec) (hb : c.code = cc) (hd : decode cc pc = .ok (.ior, 1)) (hk : ∀ pc ls st σ, k pc ls st σ = some (rv, rf) → zG p l e R s m args below meth c Q D A pa ws0 σ0 rf pc ls st σ) (h : zstep X C .ior ls st σ (pc + 1) k = some (rv, rf)) : zG p l e R s m args below meth c Q D A pa ws0 σ0 rf pc ls st σ := by
  simp only [zstep] at h
  split at h
  · exact zG_step (hk _ _ _ _ h) (fun ws H locs cells slots mls mst hS hl hs kk => by
      obtain ⟨_, _, rfl, ⟨y, rfl, rfl⟩, _, m2, rfl, ⟨x, rfl, rfl⟩, hs⟩ := hs
      exact lv_ior hx hb hd (kk mls _ hl (zSR_int (zn_or x y) hs)))
  · cases h
theorem zs_ishl (hx : p.tables.exec = Jvm.exec) (hb : c.code = cc) (hd : decode cc pc = .ok (.ishl, 1)) (hk : ∀ pc ls st σ, k pc ls st σ = some (rv, rf) → zG p l e R s m args below meth c Q D A pa ws0 σ0 rf pc ls st σ) (h : zstep X C .ishl ls st σ (pc + 1) k = some (rv, rf)) : zG p l e R s m args below meth c Q D A pa ws0 σ0 rf pc ls st σ := by
  simp only [zstep] at h
  split at h
  · exact zG_step (hk _ _ _ _ h) (fun ws H locs cells slots mls mst hS hl hs kk => by
      obtain ⟨_, _, rfl, ⟨y, rfl, rfl⟩, _, m2, rfl, ⟨x, rfl, rfl⟩, hs⟩ := hs
      exact lv_ishl hx hb hd (kk mls _ hl (zSR_int (zn_shl x y) hs)))
  · cases h
theorem zs_ishr (hx : p.tables.exec = Jvm.exec) (hb : c.code = cc) (hd : decode cc pc = .ok (.ishr, 1)) (hk : ∀ pc ls st σ, k pc ls st σ = some (rv, rf) → zG p l e R s m args below meth c Q D A pa ws0 σ0 rf pc ls st σ) (h : zstep X C .ishr ls st σ (pc + 1) k = some (rv, rf)) : zG p l e R s m args below meth c Q D A pa ws0 σ0 rf pc ls st σ := by
  simp only [zstep] at h
  split at h
  · exact zG_step (hk _ _ _ _ h) (fun ws H locs cells slots mls mst hS hl hs kk => by
      obtain ⟨_, _, rfl, ⟨y, rfl, rfl⟩, _, m2, rfl, ⟨x, rfl, rfl⟩, hs⟩ := hs
      exact lv_ishr hx hb hd (kk mls _ hl (zSR_int (zn_shr x y) hs)))
  · cases h
theorem zs_iushr (hx : p.tables.exec = Jvm.exec) (hb : c.code = cc) (hd : decode cc pc = .ok (.iushr, 1)) (hk : ∀ pc ls st σ, k pc ls st σ = some (rv, rf) → zG p l e R s m args below meth c Q D A pa ws0 σ0 rf pc ls st σ) (h : zstep X C .iushr ls st σ (pc + 1) k = some (rv, rf)) : zG p l e R s m args below meth c Q D A pa ws0 σ0 rf pc ls st σ := by
  simp only [zstep] at h
  split at h
  · exact zG_step (hk _ _ _ _ h) (fun ws H locs cells slots mls mst hS hl hs kk => by
      obtain ⟨_, _, rfl, ⟨y, rfl, rfl⟩, _, m2, rfl, ⟨x, rfl, rfl⟩, hs⟩ := hs
      exact lv_iushr hx hb hd rfl (kk mls _ hl (zSR_int (zn_ushr x y) hs)))
  · cases h
theorem zs_idiv (hx : p.tables.exec = Jvm.exec) (hb : c.code = cc) (hd : decode cc pc = .ok (.idiv, 1)) (hk : ∀ pc ls st σ, k pc ls st σ = some (rv, rf) → zG p l e R s m args below meth c Q D A pa ws0 σ0 rf pc ls st σ) (h : zstep X C .idiv ls st σ (pc + 1) k = some (rv, rf)) : zG p l e R s m args below meth c Q D A pa ws0 σ0 rf pc ls st σ := by
  simp only [zstep] at h
  split at h
  · split at h
    · cases h
    · next hy0 =>
      exact zG_step (hk _ _ _ _ h) (fun ws H locs cells slots mls mst hS hl hs kk => by
        obtain ⟨_, _, rfl, ⟨y, rfl, hy1⟩, _, m2, rfl, ⟨x, rfl, hx1⟩, hs⟩ := hs
        subst hy1; subst hx1
        have hy : ¬ y.toInt = 0 := hy0
        exact lv_idiv hx hb hd (fun q => hy ((zn_eq0 y).mp q)) (kk mls _ hl (zSR_int (zn_div x y) hs)))
  · cases h
theorem zs_irem (hx : p.tables.exec = Jvm.exec) (hb : c.code = cc) (hd : decode cc pc = .ok (.irem, 1)) (hk : ∀ pc ls st σ, k pc ls st σ = some (rv, rf) → zG p l e R s m args below meth c Q D A pa ws0 σ0 rf pc ls st σ) (h : zstep X C .irem ls st σ (pc + 1) k = some (rv, rf)) : zG p l e R s m args below meth c Q D A pa ws0 σ0 rf pc ls st σ := by
  simp only [zstep] at h
  split at h
  · split at h
    · cases h
    · next hy0 =>
      exact zG_step (hk _ _ _ _ h) (fun ws H locs cells slots mls mst hS hl hs kk => by
        obtain ⟨_, _, rfl, ⟨y, rfl, hy1⟩, _, m2, rfl, ⟨x, rfl, hx1⟩, hs⟩ := hs
        subst hy1; subst hx1
        have hy : ¬ y.toInt = 0 := hy0
        exact lv_irem hx hb hd (fun q => hy ((zn_eq0 y).mp q)) (kk mls _ hl (zSR_int (zn_rem x y hy) hs)))
  · cases h
theorem zs_i2l (hx : p.tables.exec = Jvm.exec) (hb : c.code = cc) (hd : decode cc pc = .ok (.i2l, 1)) (hk : ∀ pc ls st σ, k pc ls st σ = some (rv, rf) → zG p l e R s m args below meth c Q D A pa ws0 σ0 rf pc ls st σ) (h : zstep X C .i2l ls st σ (pc + 1) k = some (rv, rf)) : zG p l e R s m args below meth c Q D A pa ws0 σ0 rf pc ls st σ := by
  simp only [zstep] at h
  split at h
  · exact zG_step (hk _ _ _ _ h) (fun ws H locs cells slots mls mst hS hl hs kk => by
      obtain ⟨_, _, rfl, ⟨x, rfl, rfl⟩, hs⟩ := hs
      exact lv_i2l hx hb hd rfl (kk mls _ hl (zSR_long (zn_i2l x) hs)))
  · cases h
theorem zs_l2i (hx : p.tables.exec = Jvm.exec) (hb : c.code = cc) (hd : decode cc pc = .ok (.l2i, 1)) (hk : ∀ pc ls st σ, k pc ls st σ = some (rv, rf) → zG p l e R s m args below meth c Q D A pa ws0 σ0 rf pc ls st σ) (h : zstep X C .l2i ls st σ (pc + 1) k = some (rv, rf)) : zG p l e R s m args below meth c Q D A pa ws0 σ0 rf pc ls st σ := by
  simp only [zstep] at h
  split at h
  · exact zG_step (hk _ _ _ _ h) (fun ws H locs cells slots mls mst hS hl hs kk => by
      obtain ⟨_, _, rfl, ⟨x, rfl, rfl⟩, hs⟩ := hs
      exact lv_l2i hx hb hd rfl (kk mls _ hl (zSR_int (zn_l2i x) hs)))
  · cases h
theorem zs_i2b (hx : p.tables.exec = Jvm.exec) (hb : c.code = cc) (hd : decode cc pc = .ok (.i2b, 1)) (hk : ∀ pc ls st σ, k pc ls st σ = some (rv, rf) → zG p l e R s m args below meth c Q D A pa ws0 σ0 rf pc ls st σ) (h : zstep X C .i2b ls st σ (pc + 1) k = some (rv, rf)) : zG p l e R s m args below meth c Q D A pa ws0 σ0 rf pc ls st σ := by
  simp only [zstep] at h
  split at h
  · exact zG_step (hk _ _ _ _ h) (fun ws H locs cells slots mls mst hS hl hs kk => by
      obtain ⟨_, _, rfl, ⟨x, rfl, rfl⟩, hs⟩ := hs
      exact lv_i2b hx hb hd rfl (kk mls _ hl (zSR_int (zn_i2b x) hs)))
  · cases h
theorem zs_i2s (hx : p.tables.exec = Jvm.exec) (hb : c.code = cc) (hd : decode cc pc = .ok (.i2s, 1)) (hk : ∀ pc ls st σ, k pc ls st σ = some (rv, rf) → zG p l e R s m args below meth c Q D A pa ws0 σ0 rf pc ls st σ) (h : zstep X C .i2s ls st σ (pc + 1) k = some (rv, rf)) : zG p l e R s m args below meth c Q D A pa ws0 σ0 rf pc ls st σ := by
  simp only [zstep] at h
  split at h
  · exact zG_step (hk _ _ _ _ h) (fun ws H locs cells slots mls mst hS hl hs kk => by
      obtain ⟨_, _, rfl, ⟨x, rfl, rfl⟩, hs⟩ := hs
      exact lv_i2s hx hb hd rfl (kk mls _ hl (zSR_int (zn_i2s x) hs)))
  · cases h
theorem zs_ladd (hx : p.tables.exec = Jvm.exec) (hb : c.code = cc) (hd : decode cc pc = .ok (.ladd, 1)) (hk : ∀ pc ls st σ, k pc ls st σ = some (rv, rf) → zG p l e R s m args below meth c Q D A pa ws0 σ0 rf pc ls st σ) (h : zstep X C .ladd ls st σ (pc + 1) k = some (rv, rf)) : zG p l e R s m args below meth c Q D A pa ws0 σ0 rf pc ls st σ := by
  simp only [zstep] at h
  split at h
  · exact zG_step (hk _ _ _ _ h) (fun ws H locs cells slots mls mst hS hl hs kk => by
      obtain ⟨_, _, rfl, ⟨y, rfl, rfl⟩, _, m2, rfl, ⟨x, rfl, rfl⟩, hs⟩ := hs
      exact lv_ladd hx hb hd (kk mls _ hl (zSR_long (zn_ladd x y) hs)))
  · cases h
theorem zs_lsub (hx : p.tables.exec = Jvm.exec) (hb : c.code = cc) (hd : decode cc pc = .ok (.lsub, 1)) (hk : ∀ pc ls st σ, k pc ls st σ = some (rv, rf) → zG p l e R s m args below meth c Q D A pa ws0 σ0 rf pc ls st σ) (h : zstep X C .lsub ls st σ (pc + 1) k = some (rv, rf)) : zG p l e R s m args below meth c Q D A pa ws0 σ0 rf pc ls st σ := by
  simp only [zstep] at h
  split at h
  · exact zG_step (hk _ _ _ _ h) (fun ws H locs cells slots mls mst hS hl hs kk => by
      obtain ⟨_, _, rfl, ⟨y, rfl, rfl⟩, _, m2, rfl, ⟨x, rfl, rfl⟩, hs⟩ := hs
      exact lv_lsub hx hb hd (kk mls _ hl (zSR_long (zn_lsub x y) hs)))
  · cases h
theorem zs_lmul (hx : p.tables.exec = Jvm.exec) (hb : c.code = cc) (hd : decode cc pc = .ok (.lmul, 1)) (hk : ∀ pc ls st σ, k pc ls st σ = some (rv, rf) → zG p l e R s m args below meth c Q D A pa ws0 σ0 rf pc ls st σ) (h : zstep X C .lmul ls st σ (pc + 1) k = some (rv, rf)) : zG p l e R s m args below meth c Q D A pa ws0 σ0 rf pc ls st σ := by
  simp only [zstep] at h
  split at h
  · exact zG_step (hk _ _ _ _ h) (fun ws H locs cells slots mls mst hS hl hs kk => by
      obtain ⟨_, _, rfl, ⟨y, rfl, rfl⟩, _, m2, rfl, ⟨x, rfl, rfl⟩, hs⟩ := hs
      exact lv_lmul hx hb hd (kk mls _ hl (zSR_long (zn_lmul x y) hs)))
  · cases h
theorem zs_lcmp (hx : p.tables.exec = Jvm.exec) (hb : c.code = cc) (hd : decode cc pc = .ok (.lcmp, 1)) (hk : ∀ pc ls st σ, k pc ls st σ = some (rv, rf) → zG p l e R s m args below meth c Q D A pa ws0 σ0 rf pc ls st σ) (h : zstep X C .lcmp ls st σ (pc + 1) k = some (rv, rf)) : zG p l e R s m args below meth c Q D A pa ws0 σ0 rf pc ls st σ := by
  simp only [zstep] at h
  split at h
  · exact zG_step (hk _ _ _ _ h) (fun ws H locs cells slots mls mst hS hl hs kk => by
      obtain ⟨_, _, rfl, ⟨y, rfl, rfl⟩, _, m2, rfl, ⟨x, rfl, rfl⟩, hs⟩ := hs
      exact W.lcmp hx hb hd (kk mls _ hl (zSR_int (zn_lcmp x y) hs)))
  · cases h
theorem zs_dup (hx : p.tables.exec = Jvm.exec) (hb : c.code = cc) (hd : decode cc pc = .ok (.dup, 1)) (hk : ∀ pc ls st σ, k pc ls st σ = some (rv, rf) → zG p l e R s m args below meth c Q D A pa ws0 σ0 rf pc ls st σ) (h : zstep X C .dup ls st σ (pc + 1) k = some (rv, rf)) : zG p l e R s m args below meth c Q D A pa ws0 σ0 rf pc ls st σ := by
  simp only [zstep] at h
  split at h
  · exact zG_step (hk _ _ _ _ h) (fun ws H locs cells slots mls mst hS hl hs kk => by
      obtain ⟨w, m2, rfl, hv, hs⟩ := hs
      exact lv_dup hx hb hd hv.cat (kk mls _ hl ⟨_, _, rfl, hv, _, _, rfl, hv, hs⟩))
  · exact zG_step (hk _ _ _ _ h) (fun ws H locs cells slots mls mst hS hl hs kk => by
      obtain ⟨w, m2, rfl, hv, hs⟩ := hs
      exact lv_dup hx hb hd hv.cat (kk mls _ hl ⟨_, _, rfl, hv, _, _, rfl, hv, hs⟩))
  · cases h
theorem zs_dup2 (hx : p.tables.exec = Jvm.exec) (hb : c.code = cc) (hd : decode cc pc = .ok (.dup2, 1)) (hk : ∀ pc ls st σ, k pc ls st σ = some (rv, rf) → zG p l e R s m args below meth c Q D A pa ws0 σ0 rf pc ls st σ) (h : zstep X C .dup2 ls st σ (pc + 1) k = some (rv, rf)) : zG p l e R s m args below meth c Q D A pa ws0 σ0 rf pc ls st σ := by
  simp only [zstep] at h
  split at h
  · exact zG_step (hk _ _ _ _ h) (fun ws H locs cells slots mls mst hS hl hs kk => by
      obtain ⟨w, m2, rfl, hv, hs⟩ := hs
      exact lv_dup2_2 hx hb hd hv.cat (kk mls _ hl ⟨_, _, rfl, hv, _, _, rfl, hv, hs⟩))
  · exact zG_step (hk _ _ _ _ h) (fun ws H locs cells slots mls mst hS hl hs kk => by
      obtain ⟨w, _, rfl, hv, w2, m2, rfl, hv2, hs⟩ := hs
      exact lv_dup2_11 hx hb hd hv.cat hv2.cat (kk mls _ hl ⟨_, _, rfl, hv, _, _, rfl, hv2, _, _, rfl, hv, _, _, rfl, hv2, hs⟩))
  · cases h
theorem zs_pop (hx : p.tables.exec = Jvm.exec) (hb : c.code = cc) (hd : decode cc pc = .ok (.pop, 1)) (hk : ∀ pc ls st σ, k pc ls st σ = some (rv, rf) → zG p l e R s m args below meth c Q D A pa ws0 σ0 rf pc ls st σ) (h : zstep X C .pop ls st σ (pc + 1) k = some (rv, rf)) : zG p l e R s m args below meth c Q D A pa ws0 σ0 rf pc ls st σ := by
  simp only [zstep] at h
  split at h
  · exact zG_step (hk _ _ _ _ h) (fun ws H locs cells slots mls mst hS hl hs kk => by
      obtain ⟨w, m2, rfl, hv, hs⟩ := hs
      exact lv_pop hx hb hd hv.cat (kk mls _ hl hs))
  · exact zG_step (hk _ _ _ _ h) (fun ws H locs cells slots mls mst hS hl hs kk => by
      obtain ⟨w, m2, rfl, hv, hs⟩ := hs
      exact lv_pop hx hb hd hv.cat (kk mls _ hl hs))
  · cases h
theorem zt_tgt {pc : Nat} {o : Int} (h : 0 ≤ (pc : Int) + o) : (pc : Int) + o = (((pc : Int) + o).toNat : Int) := (Int.toNat_of_nonneg h).symm
theorem zs_goto (hx : p.tables.exec = Jvm.exec) (hb : c.code = cc) {o : Int} (hd : decode cc pc = .ok (.goto o, 3)) (ho : 0 ≤ (pc : Int) + o) (hk : ∀ pc ls st σ, k pc ls st σ = some (rv, rf) → zG p l e R s m args below meth c Q D A pa ws0 σ0 rf pc ls st σ) (h : zstep X C (.goto (pc + o)) ls st σ nx k = some (rv, rf)) : zG p l e R s m args below meth c Q D A pa ws0 σ0 rf pc ls st σ :=
  zG_step (hk _ _ _ _ h) (fun ws H locs cells slots mls mst hS hl hs kk => lv_goto hx hb hd (zt_tgt ho) (kk mls _ hl hs))
theorem zs_ifCond_eq (hx : p.tables.exec = Jvm.exec) (hb : c.code = cc) {o : Int} (hd : decode cc pc = .ok (.ifCond .eq o, 3)) (ho : 0 ≤ (pc : Int) + o) (hk : ∀ pc ls st σ, k pc ls st σ = some (rv, rf) → zG p l e R s m args below meth c Q D A pa ws0 σ0 rf pc ls st σ) (h : zstep X C (.ifCond .eq (pc + o)) ls st σ (pc + 3) k = some (rv, rf)) : zG p l e R s m args below meth c Q D A pa ws0 σ0 rf pc ls st σ := by
  simp only [zstep] at h
  split at h
  · split at h
    · next hc =>
      exact zG_step (hk _ _ _ _ h) (fun ws H locs cells slots mls mst hS hl hs kk => by
        obtain ⟨_, m2, rfl, ⟨x, rfl, hx1⟩, hs⟩ := hs
        subst hx1
        refine lv_if_eq hx hb hd (zt_tgt ho) (fun q => ?_) (fun q => ?_)
        · first | exact kk mls _ hl hs | exact absurd ((zn_eq x (0 : Int32)).mpr hc) (by first | exact q | (simp only [Int32.not_lt, Int32.not_le, ne_eq] at q ⊢; exact q))
        · first | exact kk mls _ hl hs | exact absurd ((zn_eq x (0 : Int32)).mpr hc) (by first | exact q | (simp only [Int32.not_lt, Int32.not_le, ne_eq] at q ⊢; exact q)))
    · next hc =>
      exact zG_step (hk _ _ _ _ h) (fun ws H locs cells slots mls mst hS hl hs kk => by
        obtain ⟨_, m2, rfl, ⟨x, rfl, hx1⟩, hs⟩ := hs
        subst hx1
        refine lv_if_eq hx hb hd (zt_tgt ho) (fun q => ?_) (fun q => ?_)
        · first | exact kk mls _ hl hs | exact absurd ((zn_eq x (0 : Int32)).mp (by first | exact q | (simp only [Int32.not_lt, Int32.not_le, ne_eq] at q ⊢; exact q))) hc
        · first | exact kk mls _ hl hs | exact absurd ((zn_eq x (0 : Int32)).mp (by first | exact q | (simp only [Int32.not_lt, Int32.not_le, ne_eq] at q ⊢; exact q))) hc)
  · cases h
theorem zs_ifCond_ne (hx : p.tables.exec = Jvm.exec) (hb : c.code = cc) {o : Int} (hd : decode cc pc = .ok (.ifCond .ne o, 3)) (ho : 0 ≤ (pc : Int) + o) (hk : ∀ pc ls st σ, k pc ls st σ = some (rv, rf) → zG p l e R s m args below meth c Q D A pa ws0 σ0 rf pc ls st σ) (h : zstep X C (.ifCond .ne (pc + o)) ls st σ (pc + 3) k = some (rv, rf)) : zG p l e R s m args below meth c Q D A pa ws0 σ0 rf pc ls st σ := by
  simp only [zstep] at h
  split at h
  · split at h
    · next hc =>
      exact zG_step (hk _ _ _ _ h) (fun ws H locs cells slots mls mst hS hl hs kk => by
        obtain ⟨_, m2, rfl, ⟨x, rfl, hx1⟩, hs⟩ := hs
        subst hx1
        refine lv_if_ne hx hb hd (zt_tgt ho) (fun q => ?_) (fun q => ?_)
        · first | exact kk mls _ hl hs | exact absurd ((zn_eq x (0 : Int32)).mpr hc) (by first | exact q | (simp only [Int32.not_lt, Int32.not_le, ne_eq] at q ⊢; exact q))
        · first | exact kk mls _ hl hs | exact absurd ((zn_eq x (0 : Int32)).mpr hc) (by first | exact q | (simp only [Int32.not_lt, Int32.not_le, ne_eq] at q ⊢; exact q)))
    · next hc =>
      exact zG_step (hk _ _ _ _ h) (fun ws H locs cells slots mls mst hS hl hs kk => by
        obtain ⟨_, m2, rfl, ⟨x, rfl, hx1⟩, hs⟩ := hs
        subst hx1
        refine lv_if_ne hx hb hd (zt_tgt ho) (fun q => ?_) (fun q => ?_)
        · first | exact kk mls _ hl hs | exact absurd ((zn_eq x (0 : Int32)).mp (by first | exact q | (simp only [Int32.not_lt, Int32.not_le, ne_eq] at q ⊢; exact q))) hc
        · first | exact kk mls _ hl hs | exact absurd ((zn_eq x (0 : Int32)).mp (by first | exact q | (simp only [Int32.not_lt, Int32.not_le, ne_eq] at q ⊢; exact q))) hc)
  · cases h
theorem zs_ifCond_lt (hx : p.tables.exec = Jvm.exec) (hb : c.code = cc) {o : Int} (hd : decode cc pc = .ok (.ifCond .lt o, 3)) (ho : 0 ≤ (pc : Int) + o) (hk : ∀ pc ls st σ, k pc ls st σ = some (rv, rf) → zG p l e R s m args below meth c Q D A pa ws0 σ0 rf pc ls st σ) (h : zstep X C (.ifCond .lt (pc + o)) ls st σ (pc + 3) k = some (rv, rf)) : zG p l e R s m args below meth c Q D A pa ws0 σ0 rf pc ls st σ := by
  simp only [zstep] at h
  split at h
  · split at h
    · next hc =>
      exact zG_step (hk _ _ _ _ h) (fun ws H locs cells slots mls mst hS hl hs kk => by
        obtain ⟨_, m2, rfl, ⟨x, rfl, hx1⟩, hs⟩ := hs
        subst hx1
        refine lv_if_lt hx hb hd (zt_tgt ho) (fun q => ?_) (fun q => ?_)
        · first | exact kk mls _ hl hs | exact absurd ((zn_lt x (0 : Int32)).mpr hc) (by first | exact q | (simp only [Int32.not_lt, Int32.not_le, ne_eq] at q ⊢; exact q))
        · first | exact kk mls _ hl hs | exact absurd ((zn_lt x (0 : Int32)).mpr hc) (by first | exact q | (simp only [Int32.not_lt, Int32.not_le, ne_eq] at q ⊢; exact q)))
    · next hc =>
      exact zG_step (hk _ _ _ _ h) (fun ws H locs cells slots mls mst hS hl hs kk => by
        obtain ⟨_, m2, rfl, ⟨x, rfl, hx1⟩, hs⟩ := hs
        subst hx1
        refine lv_if_lt hx hb hd (zt_tgt ho) (fun q => ?_) (fun q => ?_)
        · first | exact kk mls _ hl hs | exact absurd ((zn_lt x (0 : Int32)).mp (by first | exact q | (simp only [Int32.not_lt, Int32.not_le, ne_eq] at q ⊢; exact q))) hc
        · first | exact kk mls _ hl hs | exact absurd ((zn_lt x (0 : Int32)).mp (by first | exact q | (simp only [Int32.not_lt, Int32.not_le, ne_eq] at q ⊢; exact q))) hc)
  · cases h
theorem zs_ifCond_ge (hx : p.tables.exec = Jvm.exec) (hb : c.code = cc) {o : Int} (hd : decode cc pc = .ok (.ifCond .ge o, 3)) (ho : 0 ≤ (pc : Int) + o) (hk : ∀ pc ls st σ, k pc ls st σ = some (rv, rf) → zG p l e R s m args below meth c Q D A pa ws0 σ0 rf pc ls st σ) (h : zstep X C (.ifCond .ge (pc + o)) ls st σ (pc + 3) k = some (rv, rf)) : zG p l e R s m args below meth c Q D A pa ws0 σ0 rf pc ls st σ := by
  simp only [zstep] at h
  split at h
  · split at h
    · next hc =>
      exact zG_step (hk _ _ _ _ h) (fun ws H locs cells slots mls mst hS hl hs kk => by
        obtain ⟨_, m2, rfl, ⟨x, rfl, hx1⟩, hs⟩ := hs
        subst hx1
        refine lv_if_ge hx hb hd (zt_tgt ho) (fun q => ?_) (fun q => ?_)
        · first | exact kk mls _ hl hs | exact absurd ((zn_lt x (0 : Int32)).mpr hc) (by first | exact q | (simp only [Int32.not_lt, Int32.not_le, ne_eq] at q ⊢; exact q))
        · first | exact kk mls _ hl hs | exact absurd ((zn_lt x (0 : Int32)).mpr hc) (by first | exact q | (simp only [Int32.not_lt, Int32.not_le, ne_eq] at q ⊢; exact q)))
    · next hc =>
      exact zG_step (hk _ _ _ _ h) (fun ws H locs cells slots mls mst hS hl hs kk => by
        obtain ⟨_, m2, rfl, ⟨x, rfl, hx1⟩, hs⟩ := hs
        subst hx1
        refine lv_if_ge hx hb hd (zt_tgt ho) (fun q => ?_) (fun q => ?_)
        · first | exact kk mls _ hl hs | exact absurd ((zn_lt x (0 : Int32)).mp (by first | exact q | (simp only [Int32.not_lt, Int32.not_le, ne_eq] at q ⊢; exact q))) hc
        · first | exact kk mls _ hl hs | exact absurd ((zn_lt x (0 : Int32)).mp (by first | exact q | (simp only [Int32.not_lt, Int32.not_le, ne_eq] at q ⊢; exact q))) hc)
  · cases h
theorem zs_ifCond_gt (hx : p.tables.exec = Jvm.exec) (hb : c.code = cc) {o : Int} (hd : decode cc pc = .ok (.ifCond .gt o, 3)) (ho : 0 ≤ (pc : Int) + o) (hk : ∀ pc ls st σ, k pc ls st σ = some (rv, rf) → zG p l e R s m args below meth c Q D A pa ws0 σ0 rf pc ls st σ) (h : zstep X C (.ifCond .gt (pc + o)) ls st σ (pc + 3) k = some (rv, rf)) : zG p l e R s m args below meth c Q D A pa ws0 σ0 rf pc ls st σ := by
  simp only [zstep] at h
  split at h
  · split at h
    · next hc =>
      exact zG_step (hk _ _ _ _ h) (fun ws H locs cells slots mls mst hS hl hs kk => by
        obtain ⟨_, m2, rfl, ⟨x, rfl, hx1⟩, hs⟩ := hs
        subst hx1
        refine lv_if_gt hx hb hd (zt_tgt ho) (fun q => ?_) (fun q => ?_)
        · first | exact kk mls _ hl hs | exact absurd ((zn_lt (0 : Int32) x).mpr hc) (by first | exact q | (simp only [Int32.not_lt, Int32.not_le, ne_eq] at q ⊢; exact q))
        · first | exact kk mls _ hl hs | exact absurd ((zn_lt (0 : Int32) x).mpr hc) (by first | exact q | (simp only [Int32.not_lt, Int32.not_le, ne_eq] at q ⊢; exact q)))
    · next hc =>
      exact zG_step (hk _ _ _ _ h) (fun ws H locs cells slots mls mst hS hl hs kk => by
        obtain ⟨_, m2, rfl, ⟨x, rfl, hx1⟩, hs⟩ := hs
        subst hx1
        refine lv_if_gt hx hb hd (zt_tgt ho) (fun q => ?_) (fun q => ?_)
        · first | exact kk mls _ hl hs | exact absurd ((zn_lt (0 : Int32) x).mp (by first | exact q | (simp only [Int32.not_lt, Int32.not_le, ne_eq] at q ⊢; exact q))) hc
        · first | exact kk mls _ hl hs | exact absurd ((zn_lt (0 : Int32) x).mp (by first | exact q | (simp only [Int32.not_lt, Int32.not_le, ne_eq] at q ⊢; exact q))) hc)
  · cases h
theorem zs_ifCond_le (hx : p.tables.exec = Jvm.exec) (hb : c.code = cc) {o : Int} (hd : decode cc pc = .ok (.ifCond .le o, 3)) (ho : 0 ≤ (pc : Int) + o) (hk : ∀ pc ls st σ, k pc ls st σ = some (rv, rf) → zG p l e R s m args below meth c Q D A pa ws0 σ0 rf pc ls st σ) (h : zstep X C (.ifCond .le (pc + o)) ls st σ (pc + 3) k = some (rv, rf)) : zG p l e R s m args below meth c Q D A pa ws0 σ0 rf pc ls st σ := by
  simp only [zstep] at h
  split at h
  · split at h
    · next hc =>
      exact zG_step (hk _ _ _ _ h) (fun ws H locs cells slots mls mst hS hl hs kk => by
        obtain ⟨_, m2, rfl, ⟨x, rfl, hx1⟩, hs⟩ := hs
        subst hx1
        refine lv_if_le hx hb hd (zt_tgt ho) (fun q => ?_) (fun q => ?_)
        · first | exact kk mls _ hl hs | exact absurd ((zn_lt (0 : Int32) x).mpr hc) (by first | exact q | (simp only [Int32.not_lt, Int32.not_le, ne_eq] at q ⊢; exact q))
        · first | exact kk mls _ hl hs | exact absurd ((zn_lt (0 : Int32) x).mpr hc) (by first | exact q | (simp only [Int32.not_lt, Int32.not_le, ne_eq] at q ⊢; exact q)))
    · next hc =>
      exact zG_step (hk _ _ _ _ h) (fun ws H locs cells slots mls mst hS hl hs kk => by
        obtain ⟨_, m2, rfl, ⟨x, rfl, hx1⟩, hs⟩ := hs
        subst hx1
        refine lv_if_le hx hb hd (zt_tgt ho) (fun q => ?_) (fun q => ?_)
        · first | exact kk mls _ hl hs | exact absurd ((zn_lt (0 : Int32) x).mp (by first | exact q | (simp only [Int32.not_lt, Int32.not_le, ne_eq] at q ⊢; exact q))) hc
        · first | exact kk mls _ hl hs | exact absurd ((zn_lt (0 : Int32) x).mp (by first | exact q | (simp only [Int32.not_lt, Int32.not_le, ne_eq] at q ⊢; exact q))) hc)
  · cases h
theorem zs_if_icmp_eq (hx : p.tables.exec = Jvm.exec) (hb : c.code = cc) {o : Int} (hd : decode cc pc = .ok (.if_icmp .eq o, 3)) (ho : 0 ≤ (pc : Int) + o) (hk : ∀ pc ls st σ, k pc ls st σ = some (rv, rf) → zG p l e R s m args below meth c Q D A pa ws0 σ0 rf pc ls st σ) (h : zstep X C (.if_icmp .eq (pc + o)) ls st σ (pc + 3) k = some (rv, rf)) : zG p l e R s m args below meth c Q D A pa ws0 σ0 rf pc ls st σ := by
  simp only [zstep] at h
  split at h
  · split at h
    · next hc =>
      exact zG_step (hk _ _ _ _ h) (fun ws H locs cells slots mls mst hS hl hs kk => by
        obtain ⟨_, _, rfl, ⟨y, rfl, hy1⟩, _, m2, rfl, ⟨x, rfl, hx1⟩, hs⟩ := hs
        subst hy1; subst hx1
        refine lv_icmp_eq hx hb hd (zt_tgt ho) (fun q => ?_) (fun q => ?_)
        · first | exact kk mls _ hl hs | exact absurd ((zn_eq x y).mpr hc) (by first | exact q | (simp only [Int32.not_lt, Int32.not_le, ne_eq] at q ⊢; exact q))
        · first | exact kk mls _ hl hs | exact absurd ((zn_eq x y).mpr hc) (by first | exact q | (simp only [Int32.not_lt, Int32.not_le, ne_eq] at q ⊢; exact q)))
    · next hc =>
      exact zG_step (hk _ _ _ _ h) (fun ws H locs cells slots mls mst hS hl hs kk => by
        obtain ⟨_, _, rfl, ⟨y, rfl, hy1⟩, _, m2, rfl, ⟨x, rfl, hx1⟩, hs⟩ := hs
        subst hy1; subst hx1
        refine lv_icmp_eq hx hb hd (zt_tgt ho) (fun q => ?_) (fun q => ?_)
        · first | exact kk mls _ hl hs | exact absurd ((zn_eq x y).mp (by first | exact q | (simp only [Int32.not_lt, Int32.not_le, ne_eq] at q ⊢; exact q))) hc
        · first | exact kk mls _ hl hs | exact absurd ((zn_eq x y).mp (by first | exact q | (simp only [Int32.not_lt, Int32.not_le, ne_eq] at q ⊢; exact q))) hc)
  · cases h
theorem zs_if_icmp_ne (hx : p.tables.exec = Jvm.exec) (hb : c.code = cc) {o : Int} (hd : decode cc pc = .ok (.if_icmp .ne o, 3)) (ho : 0 ≤ (pc : Int) + o) (hk : ∀ pc ls st σ, k pc ls st σ = some (rv, rf) → zG p l e R s m args below meth c Q D A pa ws0 σ0 rf pc ls st σ) (h : zstep X C (.if_icmp .ne (pc + o)) ls st σ (pc + 3) k = some (rv, rf)) : zG p l e R s m args below meth c Q D A pa ws0 σ0 rf pc ls st σ := by
  simp only [zstep] at h
  split at h
  · split at h
    · next hc =>
      exact zG_step (hk _ _ _ _ h) (fun ws H locs cells slots mls mst hS hl hs kk => by
        obtain ⟨_, _, rfl, ⟨y, rfl, hy1⟩, _, m2, rfl, ⟨x, rfl, hx1⟩, hs⟩ := hs
        subst hy1; subst hx1
        refine lv_icmp_ne hx hb hd (zt_tgt ho) (fun q => ?_) (fun q => ?_)
        · first | exact kk mls _ hl hs | exact absurd ((zn_eq x y).mpr hc) (by first | exact q | (simp only [Int32.not_lt, Int32.not_le, ne_eq] at q ⊢; exact q))
        · first | exact kk mls _ hl hs | exact absurd ((zn_eq x y).mpr hc) (by first | exact q | (simp only [Int32.not_lt, Int32.not_le, ne_eq] at q ⊢; exact q)))
    · next hc =>
      exact zG_step (hk _ _ _ _ h) (fun ws H locs cells slots mls mst hS hl hs kk => by
        obtain ⟨_, _, rfl, ⟨y, rfl, hy1⟩, _, m2, rfl, ⟨x, rfl, hx1⟩, hs⟩ := hs
        subst hy1; subst hx1
        refine lv_icmp_ne hx hb hd (zt_tgt ho) (fun q => ?_) (fun q => ?_)
        · first | exact kk mls _ hl hs | exact absurd ((zn_eq x y).mp (by first | exact q | (simp only [Int32.not_lt, Int32.not_le, ne_eq] at q ⊢; exact q))) hc
        · first | exact kk mls _ hl hs | exact absurd ((zn_eq x y).mp (by first | exact q | (simp only [Int32.not_lt, Int32.not_le, ne_eq] at q ⊢; exact q))) hc)
  · cases h
theorem zs_if_icmp_lt (hx : p.tables.exec = Jvm.exec) (hb : c.code = cc) {o : Int} (hd : decode cc pc = .ok (.if_icmp .lt o, 3)) (ho : 0 ≤ (pc : Int) + o) (hk : ∀ pc ls st σ, k pc ls st σ = some (rv, rf) → zG p l e R s m args below meth c Q D A pa ws0 σ0 rf pc ls st σ) (h : zstep X C (.if_icmp .lt (pc + o)) ls st σ (pc + 3) k = some (rv, rf)) : zG p l e R s m args below meth c Q D A pa ws0 σ0 rf pc ls st σ := by
  simp only [zstep] at h
  split at h
  · split at h
    · next hc =>
      exact zG_step (hk _ _ _ _ h) (fun ws H locs cells slots mls mst hS hl hs kk => by
        obtain ⟨_, _, rfl, ⟨y, rfl, hy1⟩, _, m2, rfl, ⟨x, rfl, hx1⟩, hs⟩ := hs
        subst hy1; subst hx1
        refine lv_icmp_lt hx hb hd (zt_tgt ho) (fun q => ?_) (fun q => ?_)
        · first | exact kk mls _ hl hs | exact absurd ((zn_lt x y).mpr hc) (by first | exact q | (simp only [Int32.not_lt, Int32.not_le, ne_eq] at q ⊢; exact q))
        · first | exact kk mls _ hl hs | exact absurd ((zn_lt x y).mpr hc) (by first | exact q | (simp only [Int32.not_lt, Int32.not_le, ne_eq] at q ⊢; exact q)))
    · next hc =>
      exact zG_step (hk _ _ _ _ h) (fun ws H locs cells slots mls mst hS hl hs kk => by
        obtain ⟨_, _, rfl, ⟨y, rfl, hy1⟩, _, m2, rfl, ⟨x, rfl, hx1⟩, hs⟩ := hs
        subst hy1; subst hx1
        refine lv_icmp_lt hx hb hd (zt_tgt ho) (fun q => ?_) (fun q => ?_)
        · first | exact kk mls _ hl hs | exact absurd ((zn_lt x y).mp (by first | exact q | (simp only [Int32.not_lt, Int32.not_le, ne_eq] at q ⊢; exact q))) hc
        · first | exact kk mls _ hl hs | exact absurd ((zn_lt x y).mp (by first | exact q | (simp only [Int32.not_lt, Int32.not_le, ne_eq] at q ⊢; exact q))) hc)
  · cases h
theorem zs_if_icmp_ge (hx : p.tables.exec = Jvm.exec) (hb : c.code = cc) {o : Int} (hd : decode cc pc = .ok (.if_icmp .ge o, 3)) (ho : 0 ≤ (pc : Int) + o) (hk : ∀ pc ls st σ, k pc ls st σ = some (rv, rf) → zG p l e R s m args below meth c Q D A pa ws0 σ0 rf pc ls st σ) (h : zstep X C (.if_icmp .ge (pc + o)) ls st σ (pc + 3) k = some (rv, rf)) : zG p l e R s m args below meth c Q D A pa ws0 σ0 rf pc ls st σ := by
  simp only [zstep] at h
  split at h
  · split at h
    · next hc =>
      exact zG_step (hk _ _ _ _ h) (fun ws H locs cells slots mls mst hS hl hs kk => by
        obtain ⟨_, _, rfl, ⟨y, rfl, hy1⟩, _, m2, rfl, ⟨x, rfl, hx1⟩, hs⟩ := hs
        subst hy1; subst hx1
        refine lv_icmp_ge hx hb hd (zt_tgt ho) (fun q => ?_) (fun q => ?_)
        · first | exact kk mls _ hl hs | exact absurd ((zn_lt x y).mpr hc) (by first | exact q | (simp only [Int32.not_lt, Int32.not_le, ne_eq] at q ⊢; exact q))
        · first | exact kk mls _ hl hs | exact absurd ((zn_lt x y).mpr hc) (by first | exact q | (simp only [Int32.not_lt, Int32.not_le, ne_eq] at q ⊢; exact q)))
    · next hc =>
      exact zG_step (hk _ _ _ _ h) (fun ws H locs cells slots mls mst hS hl hs kk => by
        obtain ⟨_, _, rfl, ⟨y, rfl, hy1⟩, _, m2, rfl, ⟨x, rfl, hx1⟩, hs⟩ := hs
        subst hy1; subst hx1
        refine lv_icmp_ge hx hb hd (zt_tgt ho) (fun q => ?_) (fun q => ?_)
        · first | exact kk mls _ hl hs | exact absurd ((zn_lt x y).mp (by first | exact q | (simp only [Int32.not_lt, Int32.not_le, ne_eq] at q ⊢; exact q))) hc
        · first | exact kk mls _ hl hs | exact absurd ((zn_lt x y).mp (by first | exact q | (simp only [Int32.not_lt, Int32.not_le, ne_eq] at q ⊢; exact q))) hc)
  · cases h
theorem zs_if_icmp_gt (hx : p.tables.exec = Jvm.exec) (hb : c.code = cc) {o : Int} (hd : decode cc pc = .ok (.if_icmp .gt o, 3)) (ho : 0 ≤ (pc : Int) + o) (hk : ∀ pc ls st σ, k pc ls st σ = some (rv, rf) → zG p l e R s m args below meth c Q D A pa ws0 σ0 rf pc ls st σ) (h : zstep X C (.if_icmp .gt (pc + o)) ls st σ (pc + 3) k = some (rv, rf)) : zG p l e R s m args below meth c Q D A pa ws0 σ0 rf pc ls st σ := by
  simp only [zstep] at h
  split at h
  · split at h
    · next hc =>
      exact zG_step (hk _ _ _ _ h) (fun ws H locs cells slots mls mst hS hl hs kk => by
        obtain ⟨_, _, rfl, ⟨y, rfl, hy1⟩, _, m2, rfl, ⟨x, rfl, hx1⟩, hs⟩ := hs
        subst hy1; subst hx1
        refine lv_icmp_gt hx hb hd (zt_tgt ho) (fun q => ?_) (fun q => ?_)
        · first | exact kk mls _ hl hs | exact absurd ((zn_lt y x).mpr hc) (by first | exact q | (simp only [Int32.not_lt, Int32.not_le, ne_eq] at q ⊢; exact q))
        · first | exact kk mls _ hl hs | exact absurd ((zn_lt y x).mpr hc) (by first | exact q | (simp only [Int32.not_lt, Int32.not_le, ne_eq] at q ⊢; exact q)))
    · next hc =>
      exact zG_step (hk _ _ _ _ h) (fun ws H locs cells slots mls mst hS hl hs kk => by
        obtain ⟨_, _, rfl, ⟨y, rfl, hy1⟩, _, m2, rfl, ⟨x, rfl, hx1⟩, hs⟩ := hs
        subst hy1; subst hx1
        refine lv_icmp_gt hx hb hd (zt_tgt ho) (fun q => ?_) (fun q => ?_)
        · first | exact kk mls _ hl hs | exact absurd ((zn_lt y x).mp (by first | exact q | (simp only [Int32.not_lt, Int32.not_le, ne_eq] at q ⊢; exact q))) hc
        · first | exact kk mls _ hl hs | exact absurd ((zn_lt y x).mp (by first | exact q | (simp only [Int32.not_lt, Int32.not_le, ne_eq] at q ⊢; exact q))) hc)
  · cases h
theorem zs_if_icmp_le (hx : p.tables.exec = Jvm.exec) (hb : c.code = cc) {o : Int} (hd : decode cc pc = .ok (.if_icmp .le o, 3)) (ho : 0 ≤ (pc : Int) + o) (hk : ∀ pc ls st σ, k pc ls st σ = some (rv, rf) → zG p l e R s m args below meth c Q D A pa ws0 σ0 rf pc ls st σ) (h : zstep X C (.if_icmp .le (pc + o)) ls st σ (pc + 3) k = some (rv, rf)) : zG p l e R s m args below meth c Q D A pa ws0 σ0 rf pc ls st σ := by
  simp only [zstep] at h
  split at h
  · split at h
    · next hc =>
      exact zG_step (hk _ _ _ _ h) (fun ws H locs cells slots mls mst hS hl hs kk => by
        obtain ⟨_, _, rfl, ⟨y, rfl, hy1⟩, _, m2, rfl, ⟨x, rfl, hx1⟩, hs⟩ := hs
        subst hy1; subst hx1
        refine lv_icmp_le hx hb hd (zt_tgt ho) (fun q => ?_) (fun q => ?_)
        · first | exact kk mls _ hl hs | exact absurd ((zn_lt y x).mpr hc) (by first | exact q | (simp only [Int32.not_lt, Int32.not_le, ne_eq] at q ⊢; exact q))
        · first | exact kk mls _ hl hs | exact absurd ((zn_lt y x).mpr hc) (by first | exact q | (simp only [Int32.not_lt, Int32.not_le, ne_eq] at q ⊢; exact q)))
    · next hc =>
      exact zG_step (hk _ _ _ _ h) (fun ws H locs cells slots mls mst hS hl hs kk => by
        obtain ⟨_, _, rfl, ⟨y, rfl, hy1⟩, _, m2, rfl, ⟨x, rfl, hx1⟩, hs⟩ := hs
        subst hy1; subst hx1
        refine lv_icmp_le hx hb hd (zt_tgt ho) (fun q => ?_) (fun q => ?_)
        · first | exact kk mls _ hl hs | exact absurd ((zn_lt y x).mp (by first | exact q | (simp only [Int32.not_lt, Int32.not_le, ne_eq] at q ⊢; exact q))) hc
        · first | exact kk mls _ hl hs | exact absurd ((zn_lt y x).mp (by first | exact q | (simp only [Int32.not_lt, Int32.not_le, ne_eq] at q ⊢; exact q))) hc)
  · cases h
end ZOPS2
end
section
/-! ONE STEP OF THE SMALL MACHINE IS ONE INSTRUCTION OF THE MACHINE: jumps by tables, the heap. -/
/-- what the pool says of a field's number -/
def zFK (n : Nat) : Prop := n / 256 < 11 ∧ n / 4 % 64 < znf (n / 256) ∧ (zfT n).1 = znm (n / 256) ∧ ((n % 4 = 0 ∧ zty (n / 256) (n / 4 % 64) = .int) ∨ (n % 4 = 1 ∧ zty (n / 256) (n / 4 % 64) = .long) ∨ (n % 4 = 2 ∧ zty (n / 256) (n / 4 % 64) = .boolean) ∨ (n % 4 = 3 ∧ fits (zty (n / 256) (n / 4 % 64)) .null = true))
theorem zFR_ref {ws : va_W} {t : FieldType} {i : Int} {r : Nat} {w : Value} (h : fits t .null = true) : zFR ws t i r w = zRR ws r w := by
  cases t <;> first | rfl | (simp [fits] at h)
theorem zfits_ref {ws : va_W} {t : FieldType} {r : Nat} {w : Value} (h : fits t .null = true) (hw : zRR ws r w) : narrow t w = w ∧ fits t w = true := by
  cases r with
  | zero =>
    rw [show w = .null from hw]
    exact ⟨by cases t <;> first | rfl | (simp [fits] at h), h⟩
  | succ b =>
    obtain ⟨q, -, hq⟩ := hw
    rw [hq]
    cases t <;> first | exact ⟨rfl, rfl⟩ | (simp [fits] at h)
theorem zn_ofNat {n : Nat} (h : n < 2147483648) : (Int32.ofNat n).toInt = n := nI_toInt (by omega)
section ZOPS3
variable {p : Program} {l : Launch} {e : Env} {R : Room} {s : State} {m : MethodId} {args : Array Value} {below : List Frame} {meth : Method} {c : Code} {cc : ByteArray} {Q : State → Prop} {D : va_G} {A : Nat → Prop} {pa : Nat → Nat} {ws0 : va_W} {σ0 rf : zMem}
variable {pc nx : Nat} {ls : zLoc} {st : List zV} {σ : zMem} {k : zK} {X : zX} {C : zC} {rv : Option zV}
theorem zs_tableswitch (hx : p.tables.exec = Jvm.exec) (hb : c.code = cc) {d lo hi : Int} {ts : Array Int} {len : Nat} (hd : decode cc pc = .ok (.tableswitch d lo hi ts, len)) (hdt : 0 ≤ (pc : Int) + d) (hts : ts.toList.all (fun o => decide (0 ≤ (pc : Int) + o)) = true) (hk : ∀ pc ls st σ, k pc ls st σ = some (rv, rf) → zG p l e R s m args below meth c Q D A pa ws0 σ0 rf pc ls st σ) (h : zstep X C (.tableswitch (pc + d) lo hi ⟨ts.toList.map (fun o => pc + o)⟩) ls st σ nx k = some (rv, rf)) : zG p l e R s m args below meth c Q D A pa ws0 σ0 rf pc ls st σ := by
  simp only [zstep] at h
  split at h
  · split at h
    · next x r hlo =>
      exact zG_step (hk _ _ _ _ h) (fun ws H locs cells slots mls mst hS hl hs kk => by
        obtain ⟨_, m2, rfl, ⟨x, rfl, hx1⟩, hs⟩ := hs
        subst hx1
        exact lv_tableOut hx hb hd (Or.inl hlo) (zt_tgt hdt) (kk mls _ hl hs))
    · split at h
      · next x r hlo hhi =>
        exact zG_step (hk _ _ _ _ h) (fun ws H locs cells slots mls mst hS hl hs kk => by
          obtain ⟨_, m2, rfl, ⟨x, rfl, hx1⟩, hs⟩ := hs
          subst hx1
          exact lv_tableOut hx hb hd (Or.inr hhi) (zt_tgt hdt) (kk mls _ hl hs))
      · split at h
        · next x r hlo hhi _ t ht =>
          rw [List.getElem?_map] at ht
          obtain ⟨o, ho, rfl⟩ := Option.map_eq_some_iff.mp ht
          have hon : 0 ≤ (pc : Int) + o := by
            have := List.all_eq_true.mp hts o (List.mem_of_getElem? ho)
            simpa using this
          exact zG_step (hk _ _ _ _ h) (fun ws H locs cells slots mls mst hS hl hs kk => by
            obtain ⟨_, m2, rfl, ⟨x, rfl, hx1⟩, hs⟩ := hs
            subst hx1
            exact lv_tableIn hx hb hd hlo hhi (by rw [← Array.getElem?_toList]; exact ho) (zt_tgt hon) (kk mls _ hl hs))
        · cases h
  · cases h
theorem zlook_off (pc : Nat) (d : Int) (x : Int) : ∀ (l : List (Int × Int)), zlook (l.map (fun q => (q.1, (pc : Int) + q.2))) ((pc : Int) + d) x = (pc : Int) + Op.lookupswitch.offset l d x
  | [] => rfl
  | (a, o) :: l => by
    rw [List.map_cons]
    simp only [zlook, Op.lookupswitch.offset]
    by_cases hxa : x = a
    · rw [if_pos hxa]
      first | (rw [if_pos hxa]) | (rw [if_pos (by simpa using hxa)]) | (rw [if_pos hxa.symm]) | simp [hxa]
    · rw [if_neg hxa]
      have ih := zlook_off pc d x l
      first | (rw [if_neg hxa]; exact ih) | (rw [if_neg (fun q => hxa q.symm)]; exact ih) | (rw [if_neg (by simpa using hxa)]; exact ih) | (rw [if_neg (by simpa using (fun q => hxa (Eq.symm q)))]; exact ih) | (have hh : (x == a) = false := by simpa using hxa; simp only [hh]; exact ih)
theorem zlook_nonneg (pc : Nat) (d : Int) (x : Int) (hd : 0 ≤ (pc : Int) + d) : ∀ (l : List (Int × Int)), l.all (fun q => decide (0 ≤ (pc : Int) + q.2)) = true → 0 ≤ zlook (l.map (fun q => (q.1, (pc : Int) + q.2))) ((pc : Int) + d) x
  | [], _ => hd
  | (a, o) :: l, h => by
    rw [List.all_cons, Bool.and_eq_true] at h
    rw [List.map_cons]
    simp only [zlook]
    split
    · simpa using h.1
    · exact zlook_nonneg pc d x hd l h.2
theorem zs_lookupswitch (hx : p.tables.exec = Jvm.exec) (hb : c.code = cc) {d : Int} {ps : Array (Int × Int)} {len : Nat} (hd : decode cc pc = .ok (.lookupswitch d ps, len)) (hdt : 0 ≤ (pc : Int) + d) (hps : ps.toList.all (fun q => decide (0 ≤ (pc : Int) + q.2)) = true) (hso : (ps.toList.zip (ps.toList.drop 1)).all (fun (a, next) => a.1 < next.1) = true) (hk : ∀ pc ls st σ, k pc ls st σ = some (rv, rf) → zG p l e R s m args below meth c Q D A pa ws0 σ0 rf pc ls st σ) (h : zstep X C (.lookupswitch (pc + d) ⟨ps.toList.map (fun q => (q.1, pc + q.2))⟩) ls st σ nx k = some (rv, rf)) : zG p l e R s m args below meth c Q D A pa ws0 σ0 rf pc ls st σ := by
  simp only [zstep] at h
  split at h
  · next x r =>
    exact zG_step (hk _ _ _ _ h) (fun ws H locs cells slots mls mst hS hl hs kk => by
      obtain ⟨_, m2, rfl, ⟨x, rfl, hx1⟩, hs⟩ := hs
      subst hx1
      refine lv_lookup hx hb hd hso rfl ?_ (kk mls _ hl hs)
      have h1 := zlook_off pc d x.toInt ps.toList
      have h2 := zlook_nonneg pc d x.toInt hdt ps.toList hps
      rw [← h1]
      exact (Int.toNat_of_nonneg h2).symm)
  · cases h
theorem zCR_obj {ws : va_W} {tys : List (ClassId × FieldType)} {kd : Nat × (Nat × Nat)} {I : Nat → Int} {R : Nat → Nat} {e : va_E} {c : Nat} (hk : kd = (1, (c, 0))) (h : zCR ws tys kd I R e) : ∃ fs : List Value, e = .inr (c, fs) ∧ fs.length = znf c ∧ ∀ (j : Nat) (v : Value), fs[j]? = some v → zFR ws (zty c j) (I j) (R j) v := by
  subst hk
  exact h.2
theorem zs_getfield (hx : p.tables.exec = Jvm.exec) (hb : c.code = cc) {own i n : Nat} {Ts : List Cond} (hown : s.vm.findClass (znm own) = some m.cls) (hts : ∀ w ∈ Ts, w.before args s = true) (hin : ∀ w ∈ u_ws (znm (n / 256)) (zTT (n / 256)) (znf (n / 256)), w ∈ Ts) (hf : zFK n) (hlk : (Cond.fieldLink (znm own) i (zfT n).1 (zfT n).2.1 (zfT n).2.2.1).before args s = true) (hd : decode cc pc = .ok (.getfield i, 3)) (hk : ∀ pc ls st σ, k pc ls st σ = some (rv, rf) → zG p l e R s m args below meth c Q D A pa ws0 σ0 rf pc ls st σ) (h : zstep X C (.getfield n) ls st σ (pc + 3) k = some (rv, rf)) : zG p l e R s m args below meth c Q D A pa ws0 σ0 rf pc ls st σ := by
  obtain ⟨hf1, hf2, hf3, hf4⟩ := hf
  simp only [zstep] at h
  split at h
  · next a r =>
    split at h
    · next hka =>
      have hcl := (zclass_ok _ hf1).1
      have fin : ∀ v, k (pc + 3) ls (v :: r) σ = some (rv, rf) → (∀ (ws : va_W) (tys : List (ClassId × FieldType)) (w : Value) (b : Nat) (q : Nat) (fs : List Value), a = b + 1 → zFR ws (zty (n / 256) (n / 4 % 64)) (σ.1 a (n / 4 % 64)) (σ.2.1 a (n / 4 % 64)) w → zVR pa ws v w) → zG p l e R s m args below meth c Q D A pa ws0 σ0 rf pc ls (.inr (.inr (.inl a)) :: r) σ := by
        intro v hv hw
        have hz := hk _ _ _ _ hv
        refine ⟨hz.1, fun ws tys H locs mls mst hn hK hR hP hD hS hxx hl hst => ?_⟩
        obtain ⟨w0, m2, rfl, hw0, hst⟩ := hst
        obtain ⟨b, q, e, rfl, hb1, rfl, hc⟩ := hR.at hw0 (by rw [hka]; exact Nat.one_ne_zero)
        obtain ⟨fs, rfl, hlen, hfs⟩ := zCR_obj hka hc
        have hlt : n / 4 % 64 < fs.length := by rw [hlen]; exact hf2
        have hfv := List.getElem?_eq_getElem hlt
        exact va_get hx hb hts hin hown hK hP b hb1 hcl (n / 4 % 64) hf2 hlk (fun x hx => hx) hfv hd (hz.2 ws tys H locs mls _ hn hK hR hP hD hS hxx hl ⟨_, _, rfl, hw ws tys _ b q fs rfl (hfs _ _ hfv), hst⟩)
      rcases hf4 with ⟨h4, h5⟩ | ⟨h4, h5⟩ | ⟨h4, h5⟩ | ⟨h4, h5⟩
      · rw [h4] at h
        refine fin _ h (fun ws tys w b q fs e1 hw => ?_)
        rw [h5] at hw
        exact hw
      · rw [h4] at h
        refine fin _ h (fun ws tys w b q fs e1 hw => ?_)
        rw [h5] at hw
        exact hw
      · rw [h4] at h
        refine fin _ h (fun ws tys w b q fs e1 hw => ?_)
        rw [h5] at hw
        exact hw
      · rw [h4] at h
        refine fin _ h (fun ws tys w b q fs e1 hw => ?_)
        rw [zFR_ref h5] at hw
        exact hw
    · cases h
  · cases h
/-- a field is written, whatever it is -/
theorem zs_putany (hx : p.tables.exec = Jvm.exec) (hb : c.code = cc) {own i n a : Nat} {r : List zV} {v : zV} {σ' : zMem} {Ts : List Cond} (hown : s.vm.findClass (znm own) = some m.cls) (hts : ∀ w ∈ Ts, w.before args s = true) (hin : ∀ w ∈ u_ws (znm (n / 256)) (zTT (n / 256)) (znf (n / 256)), w ∈ Ts) (hf : zFK n) (hfin : (zfT n).2.2.2 = false ∨ (meth.name = "<init>" ∧ (zfT n).1 = znm own)) (hlk : (Cond.fieldLink (znm own) i (zfT n).1 (zfT n).2.1 (zfT n).2.2.1).before args s = true) (hd : decode cc pc = .ok (.putfield i, 3)) (hka : σ.2.2.1 a = (1, (n / 256, 0))) (hz : zG p l e R s m args below meth c Q D A pa ws0 σ0 rf (pc + 3) ls r σ') (hsame : σ'.2.2.2 = σ.2.2.2)
    (hv : ∀ (ws : va_W) (w : Value), zVR pa ws v w → narrow (zty (n / 256) (n / 4 % 64)) w = w ∧ fits (zty (n / 256) (n / 4 % 64)) w = true)
    (hset : ∀ (ws : va_W) (tys : List (ClassId × FieldType)) (b q : Nat) (fs : List Value) (w : Value), a = b + 1 → zRel σ ws tys → ws[b]? = some (q, .inr (n / 256, fs)) → fs.length = znf (n / 256) → (∀ (j : Nat) (v : Value), fs[j]? = some v → zFR ws (zty (n / 256) j) (σ.1 (b + 1) j) (σ.2.1 (b + 1) j) v) → zVR pa ws v w → zRel σ' (ws.set b (q, .inr (n / 256, fs.set (n / 4 % 64) w))) tys) : zG p l e R s m args below meth c Q D A pa ws0 σ0 rf pc ls (v :: .inr (.inr (.inl a)) :: r) σ := by
  obtain ⟨hf1, hf2, hf3, hf4⟩ := hf
  obtain ⟨hcl, -, hty, hnd, -⟩ := zclass_ok _ hf1
  refine ⟨by rw [← hsame]; exact hz.1, fun ws tys H locs mls mst hn hK hR hP hD hS hxx hl hst => ?_⟩
  obtain ⟨w, _, rfl, hw, w0, m2, rfl, hw0, hst⟩ := hst
  obtain ⟨b, q, e, rfl, hb1, rfl, hc⟩ := hR.at hw0 (by rw [hka]; exact Nat.one_ne_zero)
  obtain ⟨fs, rfl, hlen, hfs⟩ := zCR_obj hka hc
  have hlt : n / 4 % 64 < fs.length := by rw [hlen]; exact hf2
  obtain ⟨hn1, hn2⟩ := hv ws w hw
  have hx1 := zext.set (e' := .inr (n / 256, fs.set (n / 4 % 64) w)) hb1
  have kk : ∀ (H1 : Heap) (locs1 : List Loc), va_P D zcl (ws.set b (q, .inr (n / 256, fs.set (n / 4 % 64) w))) H1 → va_D A (ws.set b (q, .inr (n / 256, fs.set (n / 4 % 64) w))) → va_S A s.heap H1 locs1 → W p l e R s m args below meth c H1 locs1 (σ.2.2.2.1 - σ0.2.2.2.1) (σ.2.2.2.2 - σ0.2.2.2.2) Q (F0 m (pc + 3) mls m2) := by
    intro H1 locs1 hP1 hD1 hS1
    have h2 := hz.2 (ws.set b (q, .inr (n / 256, fs.set (n / 4 % 64) w))) tys H1 locs1 mls m2 (by rw [hsame]; exact hn) hK (hset ws tys b q fs w rfl hR hb1 hlen hfs hw) hP1 hD1 hS1 (hxx.trans hx1) (hl.mono hx1) (hst.mono hx1)
    rw [hsame] at h2
    exact h2
  rcases hfin with hfin | ⟨hfin, hdecl⟩
  · exact va_put hx hb hts hin (zty (n / 256)) hty hnd hown hK hP hD hS b hb1 hcl (n / 4 % 64) hf2 hlk (fun x hx => hx) hfin (hty _ hf2) hn1 hn2 hlt hd kk
  · by_cases hff : (zfT n).2.2.2 = false
    · exact va_put hx hb hts hin (zty (n / 256)) hty hnd hown hK hP hD hS b hb1 hcl (n / 4 % 64) hf2 hlk (fun x hx => hx) hff (hty _ hf2) hn1 hn2 hlt hd kk
    · exact va_putF hx hb hts hin (zty (n / 256)) hty hnd hown hK hP hD hS b hb1 hcl (n / 4 % 64) hf2 hlk (fun x hx => hx) (by cases hq : (zfT n).2.2.2 with | true => exact hq | false => exact absurd hq hff) hfin hdecl (hty _ hf2) hn1 hn2 hlt hd kk
theorem zset_FR {ws : va_W} {c j0 : Nat} {fs : List Value} {w : Value} {I : Nat → Int} {R : Nat → Nat} {v : Int} (hfs : ∀ (j : Nat) (v : Value), fs[j]? = some v → zFR ws (zty c j) (I j) (R j) v) (hw : zFR ws (zty c j0) v (R j0) w) : ∀ (j : Nat) (u : Value), (fs.set j0 w)[j]? = some u → zFR ws (zty c j) (if j = j0 then v else I j) (R j) u := by
  intro j u hu
  by_cases hj : j = j0
  · subst hj
    have hlt : j < fs.length := by
      have := (List.getElem?_eq_some_iff.mp hu).1
      rwa [List.length_set] at this
    rw [List.getElem?_set_self hlt] at hu
    cases hu
    rw [if_pos rfl]
    exact hw
  · rw [List.getElem?_set_ne (Ne.symm hj)] at hu
    rw [if_neg hj]
    exact hfs j u hu
theorem zset_FRr {ws : va_W} {c j0 : Nat} {fs : List Value} {w : Value} {I : Nat → Int} {R : Nat → Nat} {v : Nat} (hfs : ∀ (j : Nat) (v : Value), fs[j]? = some v → zFR ws (zty c j) (I j) (R j) v) (hw : zFR ws (zty c j0) (I j0) v w) : ∀ (j : Nat) (u : Value), (fs.set j0 w)[j]? = some u → zFR ws (zty c j) (I j) (if j = j0 then v else R j) u := by
  intro j u hu
  by_cases hj : j = j0
  · subst hj
    have hlt : j < fs.length := by
      have := (List.getElem?_eq_some_iff.mp hu).1
      rwa [List.length_set] at this
    rw [List.getElem?_set_self hlt] at hu
    cases hu
    rw [if_pos rfl]
    exact hw
  · rw [List.getElem?_set_ne (Ne.symm hj)] at hu
    rw [if_neg hj]
    exact hfs j u hu
theorem zCR_mk {ws : va_W} {tys : List (ClassId × FieldType)} {c : Nat} {I : Nat → Int} {R : Nat → Nat} {fs : List Value} (hc : c < 11) (hl : fs.length = znf c) (h : ∀ (j : Nat) (v : Value), fs[j]? = some v → zFR ws (zty c j) (I j) (R j) v) : zCR ws tys (1, (c, 0)) I R (.inr (c, fs)) := ⟨hc, fs, rfl, hl, h⟩
theorem zs_putfield (hx : p.tables.exec = Jvm.exec) (hb : c.code = cc) {own i n : Nat} {Ts : List Cond} (hown : s.vm.findClass (znm own) = some m.cls) (hts : ∀ w ∈ Ts, w.before args s = true) (hin : ∀ w ∈ u_ws (znm (n / 256)) (zTT (n / 256)) (znf (n / 256)), w ∈ Ts) (hf : zFK n) (hfin : (zfT n).2.2.2 = false ∨ (meth.name = "<init>" ∧ (zfT n).1 = znm own)) (hlk : (Cond.fieldLink (znm own) i (zfT n).1 (zfT n).2.1 (zfT n).2.2.1).before args s = true) (hd : decode cc pc = .ok (.putfield i, 3)) (hk : ∀ pc ls st σ, k pc ls st σ = some (rv, rf) → zG p l e R s m args below meth c Q D A pa ws0 σ0 rf pc ls st σ) (h : zstep X C (.putfield n) ls st σ (pc + 3) k = some (rv, rf)) : zG p l e R s m args below meth c Q D A pa ws0 σ0 rf pc ls st σ := by
  have hf0 := hf
  obtain ⟨hf1, hf2, hf3, hf4⟩ := hf
  simp only [zstep] at h
  split at h
  · next v a r =>
    split at h
    · next hka =>
      have fin : k (pc + 3) ls r (zw σ a (n / 4 % 64) v) = some (rv, rf) → (zty (n / 256) (n / 4 % 64) = .int ∨ (zty (n / 256) (n / 4 % 64) = .boolean ∧ (v = 0 ∨ v = 1))) → zG p l e R s m args below meth c Q D A pa ws0 σ0 rf pc ls (.inl v :: .inr (.inr (.inl a)) :: r) σ := by
        intro hv ht
        refine zs_putany hx hb hown hts hin hf0 hfin hlk hd hka (hk _ _ _ _ hv) rfl (fun ws w hw => ?_) (fun ws tys b q fs w e1 hR hb1 hlen hfs hw => ?_)
        · obtain ⟨x, rfl, hx1⟩ := hw
          rcases ht with ht | ⟨ht, hv1⟩
          · rw [ht]; exact ⟨rfl, rfl⟩
          · rw [ht]; exact zn_bool (by rw [hx1]; exact hv1)
        · subst e1
          refine hR.setI hb1 ?_
          rw [hka]
          refine zCR_mk hf1 (by rw [List.length_set]; exact hlen) (zset_FR hfs ?_)
          rcases ht with ht | ⟨ht, -⟩ <;> (rw [ht]; exact hw)
      rcases hf4 with ⟨h4, h5⟩ | ⟨h4, h5⟩ | ⟨h4, h5⟩ | ⟨h4, h5⟩
      · rw [h4] at h
        exact fin h (Or.inl h5)
      · rw [h4] at h; cases h
      · rw [h4] at h
        simp only [] at h
        split at h
        · next hv1 => exact fin h (Or.inr ⟨h5, hv1⟩)
        · cases h
      · rw [h4] at h; cases h
    · cases h
  · next v a r =>
    split at h
    · next hka =>
      rcases hf4 with ⟨h4, h5⟩ | ⟨h4, h5⟩ | ⟨h4, h5⟩ | ⟨h4, h5⟩
      · rw [h4] at h; cases h
      · rw [h4] at h
        refine zs_putany hx hb hown hts hin hf0 hfin hlk hd hka (hk _ _ _ _ h) rfl (fun ws w hw => ?_) (fun ws tys b q fs w e1 hR hb1 hlen hfs hw => ?_)
        · obtain ⟨x, rfl, hx1⟩ := hw
          rw [h5]; exact ⟨rfl, rfl⟩
        · subst e1
          refine hR.setI hb1 ?_
          rw [hka]
          refine zCR_mk hf1 (by rw [List.length_set]; exact hlen) (zset_FR hfs ?_)
          rw [h5]; exact hw
      · rw [h4] at h; cases h
      · rw [h4] at h; cases h
    · cases h
  · next v a r =>
    split at h
    · next hka =>
      rcases hf4 with ⟨h4, h5⟩ | ⟨h4, h5⟩ | ⟨h4, h5⟩ | ⟨h4, h5⟩
      · rw [h4] at h; cases h
      · rw [h4] at h; cases h
      · rw [h4] at h; cases h
      · rw [h4] at h
        refine zs_putany hx hb hown hts hin hf0 hfin hlk hd hka (hk _ _ _ _ h) rfl (fun ws w hw => ?_) (fun ws tys b q fs w e1 hR hb1 hlen hfs hw => ?_)
        · exact zfits_ref h5 hw
        · subst e1
          refine hR.setR hb1 ?_
          rw [hka]
          refine zCR_mk hf1 (by rw [List.length_set]; exact hlen) (zset_FRr hfs ?_)
          rw [zFR_ref h5]; exact hw
    · cases h
  · cases h
end ZOPS3
end
section
/-! ONE STEP OF THE SMALL MACHINE IS ONE INSTRUCTION OF THE MACHINE: rows, new cells. -/
theorem zidx {x : Int32} {n : Nat} (h : 0 ≤ x.toInt ∧ x.toInt < n) : vp_in x n ∧ x.toNatClampNeg = x.toInt.toNat ∧ x.toInt.toNat < n := ⟨zn_vpin h.1 h.2, rfl, by omega⟩
section ZOPS4
variable {p : Program} {l : Launch} {e : Env} {R : Room} {s : State} {m : MethodId} {args : Array Value} {below : List Frame} {meth : Method} {c : Code} {cc : ByteArray} {Q : State → Prop} {D : va_G} {A : Nat → Prop} {pa : Nat → Nat} {ws0 : va_W} {σ0 rf : zMem}
variable {pc nx : Nat} {ls : zLoc} {st : List zV} {σ : zMem} {k : zK} {X : zX} {C : zC} {rv : Option zV}
/-- what a thing that was there before answers to an index: the script, the static rows -/
def zPre (p : Program) (l : Launch) (e : Env) (R : Room) (s : State) (m : MethodId) (args : Array Value) (below : List Frame) (meth : Method) (c : Code) (cc : ByteArray) (Q : State → Prop) (A : Nat → Prop) (pa : Nat → Nat) (X : zX) : Prop := ∀ (j : Nat) (H : Heap) (locs : List Loc) (cells slots pc : Nat) (mls : Array Slot) (rest : List Value), va_S A s.heap H locs →
  j < 4 → (∀ (i : Int32), 0 ≤ i.toInt → i.toInt < (X j).1 → decode cc pc = .ok (.iaload, 1) → (∀ x : Int32, x.toInt = (X j).2 i.toInt.toNat → W p l e R s m args below meth c H locs cells slots Q (F0 m (pc + 1) mls (.int x :: rest))) → W p l e R s m args below meth c H locs cells slots Q (F0 m pc mls (.int i :: .ref (pa j) :: rest))) ∧
  (decode cc pc = .ok (.arraylength, 1) → (∀ x : Int32, x.toInt = (X j).1 → W p l e R s m args below meth c H locs cells slots Q (F0 m (pc + 1) mls (.int x :: rest))) → W p l e R s m args below meth c H locs cells slots Q (F0 m pc mls (.ref (pa j) :: rest)))
theorem zs_iaload (hx : p.tables.exec = Jvm.exec) (hb : c.code = cc) (hpre : zPre p l e R s m args below meth c cc Q A pa X) (hd : decode cc pc = .ok (.iaload, 1)) (hk : ∀ pc ls st σ, k pc ls st σ = some (rv, rf) → zG p l e R s m args below meth c Q D A pa ws0 σ0 rf pc ls st σ) (h : zstep X C .iaload ls st σ (pc + 1) k = some (rv, rf)) : zG p l e R s m args below meth c Q D A pa ws0 σ0 rf pc ls st σ := by
  simp only [zstep] at h
  split at h
  · next i a r =>
    split at h
    · next hc =>
      obtain ⟨hc1, hc2, hc3⟩ := hc
      have hz := hk _ _ _ _ h
      refine ⟨hz.1, fun ws tys H locs mls mst hn hK hR hP hD hS hxx hl hst => ?_⟩
      obtain ⟨_, _, rfl, ⟨x, rfl, rfl⟩, w0, m2, rfl, hw0, hst⟩ := hst
      obtain ⟨b, q, e, rfl, hb1, rfl, hcr⟩ := hR.at hw0 (by rw [hc1]; decide)
      simp only [zCR, hc1] at hcr
      obtain ⟨t, cA, f, ht, rfl, hf⟩ := hcr
      obtain ⟨i1, i2, i3⟩ := zidx ⟨hc2, hc3⟩
      refine va_iald hx hb hK hP b t hb1 ht i1 hd (hz.2 ws tys H locs mls _ hn hK hR hP hD hS hxx hl (zSR_int ?_ hst))
      rw [i2]
      exact hf _ i3
    · cases h
  · next i j r =>
    split at h
    · next hc =>
      have hz := hk _ _ _ _ h
      refine ⟨hz.1, fun ws tys H locs mls mst hn hK hR hP hD hS hxx hl hst => ?_⟩
      obtain ⟨_, _, rfl, ⟨x, rfl, rfl⟩, w0, m2, rfl, rfl, hst⟩ := hst
      exact (hpre j H locs _ _ pc mls m2 hS hc.1).1 x hc.2.1 hc.2.2 hd (fun y hy => hz.2 ws tys H locs mls _ hn hK hR hP hD hS hxx hl (zSR_int hy hst))
    · cases h
  · cases h
theorem zs_arraylength (hx : p.tables.exec = Jvm.exec) (hb : c.code = cc) (hpre : zPre p l e R s m args below meth c cc Q A pa X) (hd : decode cc pc = .ok (.arraylength, 1)) (hk : ∀ pc ls st σ, k pc ls st σ = some (rv, rf) → zG p l e R s m args below meth c Q D A pa ws0 σ0 rf pc ls st σ) (h : zstep X C .arraylength ls st σ (pc + 1) k = some (rv, rf)) : zG p l e R s m args below meth c Q D A pa ws0 σ0 rf pc ls st σ := by
  simp only [zstep] at h
  split at h
  · next j r =>
    split at h
    · next hj =>
      have hz := hk _ _ _ _ h
      refine ⟨hz.1, fun ws tys H locs mls mst hn hK hR hP hD hS hxx hl hst => ?_⟩
      obtain ⟨w0, m2, rfl, rfl, hst⟩ := hst
      exact (hpre j H locs _ _ pc mls m2 hS hj).2 hd (fun y hy => hz.2 ws tys H locs mls _ hn hK hR hP hD hS hxx hl (zSR_int hy hst))
    · cases h
  · cases h
theorem zs_laload (hx : p.tables.exec = Jvm.exec) (hb : c.code = cc) (hd : decode cc pc = .ok (.laload, 1)) (hk : ∀ pc ls st σ, k pc ls st σ = some (rv, rf) → zG p l e R s m args below meth c Q D A pa ws0 σ0 rf pc ls st σ) (h : zstep X C .laload ls st σ (pc + 1) k = some (rv, rf)) : zG p l e R s m args below meth c Q D A pa ws0 σ0 rf pc ls st σ := by
  simp only [zstep] at h
  split at h
  · next i a r =>
    split at h
    · next hc =>
      obtain ⟨hc1, hc2, hc3⟩ := hc
      have hz := hk _ _ _ _ h
      refine ⟨hz.1, fun ws tys H locs mls mst hn hK hR hP hD hS hxx hl hst => ?_⟩
      obtain ⟨_, _, rfl, ⟨x, rfl, rfl⟩, w0, m2, rfl, hw0, hst⟩ := hst
      obtain ⟨b, q, e, rfl, hb1, rfl, hcr⟩ := hR.at hw0 (by rw [hc1]; decide)
      simp only [zCR, hc1] at hcr
      obtain ⟨t, cA, f, ht, rfl, hf⟩ := hcr
      obtain ⟨i1, i2, i3⟩ := zidx ⟨hc2, hc3⟩
      refine va_lald hx hb hK hP b t hb1 ht i1 hd (hz.2 ws tys H locs mls _ hn hK hR hP hD hS hxx hl (zSR_long ?_ hst))
      rw [i2]
      exact hf _ i3
    · cases h
  · cases h
theorem zs_baload (hx : p.tables.exec = Jvm.exec) (hb : c.code = cc) (hd : decode cc pc = .ok (.baload, 1)) (hk : ∀ pc ls st σ, k pc ls st σ = some (rv, rf) → zG p l e R s m args below meth c Q D A pa ws0 σ0 rf pc ls st σ) (h : zstep X C .baload ls st σ (pc + 1) k = some (rv, rf)) : zG p l e R s m args below meth c Q D A pa ws0 σ0 rf pc ls st σ := by
  simp only [zstep] at h
  split at h
  · next i a r =>
    split at h
    · next hc =>
      obtain ⟨hc1, hc2, hc3⟩ := hc
      have hz := hk _ _ _ _ h
      refine ⟨hz.1, fun ws tys H locs mls mst hn hK hR hP hD hS hxx hl hst => ?_⟩
      obtain ⟨_, _, rfl, ⟨x, rfl, rfl⟩, w0, m2, rfl, hw0, hst⟩ := hst
      obtain ⟨b, q, e, rfl, hb1, rfl, hcr⟩ := hR.at hw0 (by rw [hc1]; decide)
      simp only [zCR, hc1] at hcr
      obtain ⟨t, cA, f, ht, rfl, hf⟩ := hcr
      obtain ⟨i1, i2, i3⟩ := zidx ⟨hc2, hc3⟩
      refine va_bald hx hb hK hP b t hb1 ht i1 hd (hz.2 ws tys H locs mls _ hn hK hR hP hD hS hxx hl (zSR_int ?_ hst))
      rw [i2]
      exact hf _ i3
    · cases h
  · cases h
theorem zs_aaload (hx : p.tables.exec = Jvm.exec) (hb : c.code = cc) (hd : decode cc pc = .ok (.aaload, 1)) (hk : ∀ pc ls st σ, k pc ls st σ = some (rv, rf) → zG p l e R s m args below meth c Q D A pa ws0 σ0 rf pc ls st σ) (h : zstep X C .aaload ls st σ (pc + 1) k = some (rv, rf)) : zG p l e R s m args below meth c Q D A pa ws0 σ0 rf pc ls st σ := by
  simp only [zstep] at h
  split at h
  · next i a r =>
    split at h
    · next hc =>
      obtain ⟨hc1, hc2, hc3⟩ := hc
      have hz := hk _ _ _ _ h
      refine ⟨hz.1, fun ws tys H locs mls mst hn hK hR hP hD hS hxx hl hst => ?_⟩
      obtain ⟨_, _, rfl, ⟨x, rfl, rfl⟩, w0, m2, rfl, hw0, hst⟩ := hst
      obtain ⟨b, q, e, rfl, hb1, rfl, hcr⟩ := hR.at hw0 (by rcases hc1 with hc1 | hc1 <;> (rw [hc1]; decide))
      obtain ⟨i1, i2, i3⟩ := zidx ⟨hc2, hc3⟩
      have key : ∃ (t : Nat) (cA : ClassId) (f : Nat → Option Nat) (ty : FieldType), ty.isReference = true ∧ tys[t]? = some (cA, ty) ∧ e = .inl (cA, ((σ.2.2.1 (b + 1)).2.1, .inr (.inr (.inr (.inr f))))) ∧ ∀ j, j < (σ.2.2.1 (b + 1)).2.1 → zRR ws (σ.2.1 (b + 1) j) (va_rf (f j)) := by
        rcases hc1 with hc1 | hc1
        · simp only [zCR, hc1] at hcr
          obtain ⟨t, cA, f, ht, he, hf⟩ := hcr
          exact ⟨t, cA, f, _, rfl, ht, he, hf⟩
        · simp only [zCR, hc1] at hcr
          obtain ⟨t, cA, f, ht, he, hf⟩ := hcr
          exact ⟨t, cA, f, _, rfl, ht, he, hf⟩
      obtain ⟨t, cA, f, ty, hty, ht, rfl, hf⟩ := key
      have hlt : x.toNatClampNeg < (σ.2.2.1 (b + 1)).2.1 := by rw [i2]; exact i3
      exact W.aald (v := va_rf (f x.toNatClampNeg)) (ty := ty) hx hb (hP b _ hb1) ((hK.2 t _ ht).1 (σ.2.2.1 (b + 1)).2.1 (fun j => va_rf (f j))) hty (fun q => by cases q) (by show ¬ (x < 0 ∨ (arrV _ _ _).slots.size ≤ _); rw [arrV_size]; exact i1) (by show (arrV _ _ _).slots[_]? = _; rw [arrV_read _ _ hlt]) rfl rfl hd (hz.2 ws tys H locs mls _ hn hK hR hP hD hS hxx hl ⟨_, _, rfl, hf _ i3, hst⟩)
    · cases h
  · cases h
theorem zupd_int {f : Nat → Int32} {I : Nat → Int} {n i : Nat} {x : Int32} (hf : ∀ j, j < n → (f j).toInt = I j) : ∀ j, j < n → (upd f i x j).toInt = if j = i then x.toInt else I j := by
  intro j hj
  unfold upd
  by_cases e : j = i
  · subst e; simp
  · simp [e, hf j hj]
theorem zs_iastore (hx : p.tables.exec = Jvm.exec) (hb : c.code = cc) (hd : decode cc pc = .ok (.iastore, 1)) (hk : ∀ pc ls st σ, k pc ls st σ = some (rv, rf) → zG p l e R s m args below meth c Q D A pa ws0 σ0 rf pc ls st σ) (h : zstep X C .iastore ls st σ (pc + 1) k = some (rv, rf)) : zG p l e R s m args below meth c Q D A pa ws0 σ0 rf pc ls st σ := by
  simp only [zstep] at h
  split at h
  · next v i a r =>
    split at h
    · next hc =>
      obtain ⟨hc1, hc2, hc3⟩ := hc
      have hz := hk _ _ _ _ h
      refine ⟨hz.1, fun ws tys H locs mls mst hn hK hR hP hD hS hxx hl hst => ?_⟩
      obtain ⟨_, _, rfl, ⟨y, rfl, rfl⟩, _, _, rfl, ⟨x, rfl, rfl⟩, w0, m2, rfl, hw0, hst⟩ := hst
      obtain ⟨b, q, e, rfl, hb1, rfl, hcr⟩ := hR.at hw0 (by rw [hc1]; decide)
      simp only [zCR, hc1] at hcr
      obtain ⟨t, cA, f, ht, rfl, hf⟩ := hcr
      obtain ⟨i1, i2, i3⟩ := zidx ⟨hc2, hc3⟩
      refine va_iast hx hb hK hP hD hS b t hb1 ht i1 hd (fun H1 locs1 hP1 hD1 hS1 => ?_)
      have hx1 := zext.set (e' := .inl (cA, ((σ.2.2.1 (b + 1)).2.1, .inl (upd f x.toNatClampNeg y)))) hb1
      refine hz.2 _ tys H1 locs1 mls m2 hn hK (hR.setI hb1 ?_) hP1 hD1 hS1 (hxx.trans hx1) (hl.mono hx1) (hst.mono hx1)
      simp only [zCR, hc1]
      exact ⟨t, cA, _, ht, rfl, zupd_int hf⟩
    · cases h
  · cases h
theorem zs_lastore (hx : p.tables.exec = Jvm.exec) (hb : c.code = cc) (hd : decode cc pc = .ok (.lastore, 1)) (hk : ∀ pc ls st σ, k pc ls st σ = some (rv, rf) → zG p l e R s m args below meth c Q D A pa ws0 σ0 rf pc ls st σ) (h : zstep X C .lastore ls st σ (pc + 1) k = some (rv, rf)) : zG p l e R s m args below meth c Q D A pa ws0 σ0 rf pc ls st σ := by
  simp only [zstep] at h
  split at h
  · next v i a r =>
    split at h
    · next hc =>
      obtain ⟨hc1, hc2, hc3⟩ := hc
      have hz := hk _ _ _ _ h
      refine ⟨hz.1, fun ws tys H locs mls mst hn hK hR hP hD hS hxx hl hst => ?_⟩
      obtain ⟨_, _, rfl, ⟨y, rfl, rfl⟩, _, _, rfl, ⟨x, rfl, rfl⟩, w0, m2, rfl, hw0, hst⟩ := hst
      obtain ⟨b, q, e, rfl, hb1, rfl, hcr⟩ := hR.at hw0 (by rw [hc1]; decide)
      simp only [zCR, hc1] at hcr
      obtain ⟨t, cA, f, ht, rfl, hf⟩ := hcr
      obtain ⟨i1, i2, i3⟩ := zidx ⟨hc2, hc3⟩
      refine va_last hx hb hK hP hD hS b t hb1 ht i1 hd (fun H1 locs1 hP1 hD1 hS1 => ?_)
      have hx1 := zext.set (e' := .inl (cA, ((σ.2.2.1 (b + 1)).2.1, .inr (.inl (vp_updL f x.toNatClampNeg y))))) hb1
      refine hz.2 _ tys H1 locs1 mls m2 hn hK (hR.setI hb1 ?_) hP1 hD1 hS1 (hxx.trans hx1) (hl.mono hx1) (hst.mono hx1)
      simp only [zCR, hc1]
      refine ⟨t, cA, _, ht, rfl, fun j hj => ?_⟩
      unfold vp_updL
      rw [i2]
      by_cases e : j = x.toInt.toNat
      · rw [if_pos e, if_pos e]
      · rw [if_neg e, if_neg e]; exact hf j hj
    · cases h
  · cases h
theorem zs_bastore (hx : p.tables.exec = Jvm.exec) (hb : c.code = cc) (hd : decode cc pc = .ok (.bastore, 1)) (hk : ∀ pc ls st σ, k pc ls st σ = some (rv, rf) → zG p l e R s m args below meth c Q D A pa ws0 σ0 rf pc ls st σ) (h : zstep X C .bastore ls st σ (pc + 1) k = some (rv, rf)) : zG p l e R s m args below meth c Q D A pa ws0 σ0 rf pc ls st σ := by
  simp only [zstep] at h
  split at h
  · next v i a r =>
    split at h
    · next hc =>
      obtain ⟨hc1, hc2, hc3⟩ := hc
      have hz := hk _ _ _ _ h
      refine ⟨hz.1, fun ws tys H locs mls mst hn hK hR hP hD hS hxx hl hst => ?_⟩
      obtain ⟨_, _, rfl, ⟨y, rfl, rfl⟩, _, _, rfl, ⟨x, rfl, rfl⟩, w0, m2, rfl, hw0, hst⟩ := hst
      obtain ⟨b, q, e, rfl, hb1, rfl, hcr⟩ := hR.at hw0 (by rw [hc1]; decide)
      simp only [zCR, hc1] at hcr
      obtain ⟨t, cA, f, ht, rfl, hf⟩ := hcr
      obtain ⟨i1, i2, i3⟩ := zidx ⟨hc2, hc3⟩
      refine va_bast hx hb hK hP hD hS b t hb1 ht i1 hd (fun H1 locs1 hP1 hD1 hS1 => ?_)
      have hx1 := zext.set (e' := .inl (cA, ((σ.2.2.1 (b + 1)).2.1, .inl (upd f x.toNatClampNeg (vp_nar .byte y))))) hb1
      refine hz.2 _ tys H1 locs1 mls m2 hn hK (hR.setI hb1 ?_) hP1 hD1 hS1 (hxx.trans hx1) (hl.mono hx1) (hst.mono hx1)
      simp only [zCR, hc1]
      refine ⟨t, cA, _, ht, rfl, fun j hj => ?_⟩
      rw [zupd_int hf j hj, vp_nar_byte, zn_i2b]
      rfl
    · cases h
  · cases h
theorem zs_aastore (hx : p.tables.exec = Jvm.exec) (hb : c.code = cc) (hd : decode cc pc = .ok (.aastore, 1)) (hk : ∀ pc ls st σ, k pc ls st σ = some (rv, rf) → zG p l e R s m args below meth c Q D A pa ws0 σ0 rf pc ls st σ) (h : zstep X C .aastore ls st σ (pc + 1) k = some (rv, rf)) : zG p l e R s m args below meth c Q D A pa ws0 σ0 rf pc ls st σ := by
  simp only [zstep] at h
  split at h
  · next v i a r =>
    split at h
    · next hc =>
      obtain ⟨hc1, hc2, hc3, hc4⟩ := hc
      have hz := hk _ _ _ _ h
      refine ⟨hz.1, fun ws tys H locs mls mst hn hK hR hP hD hS hxx hl hst => ?_⟩
      obtain ⟨wv, _, rfl, hwv, _, _, rfl, ⟨x, rfl, rfl⟩, w0, m2, rfl, hw0, hst⟩ := hst
      obtain ⟨b, q, e, rfl, hb1, rfl, hcr⟩ := hR.at hw0 (by rw [hc1]; decide)
      obtain ⟨bv, qv, ev, rfl, hb2, rfl, hcv⟩ := hR.at (show zRR ws v wv from hwv) (by rw [hc4]; exact Nat.one_ne_zero)
      simp only [zCR, hc1] at hcr
      obtain ⟨t, cA, f, ht, rfl, hf⟩ := hcr
      have hlt : (σ.2.2.1 (b + 1)).2.2 < 11 := by rw [hc4] at hcv; exact hcv.1
      obtain ⟨fs, rfl, -, -⟩ := zCR_obj hc4 hcv
      obtain ⟨i1, i2, i3⟩ := zidx ⟨hc2, hc3⟩
      refine va_astq hx hb hK hP hD hS b t bv (σ.2.2.1 (b + 1)).2.2 hb1 (r := (znm (σ.2.2.1 (b + 1)).2.2, zTT (σ.2.2.1 (b + 1)).2.2, znf (σ.2.2.1 (b + 1)).2.2)) ht hb2 (zclass_ok _ hlt).1 i1 hd (fun H1 locs1 hP1 hD1 hS1 => ?_)
      have hx1 := zext.set (e' := .inl (cA, ((σ.2.2.1 (b + 1)).2.1, .inr (.inr (.inr (.inr (va_up f x.toNatClampNeg (some qv)))))))) hb1
      refine hz.2 _ tys H1 locs1 mls m2 hn hK (hR.setR hb1 ?_) hP1 hD1 hS1 (hxx.trans hx1) (hl.mono hx1) (hst.mono hx1)
      simp only [zCR, hc1]
      refine ⟨t, cA, _, ht, rfl, fun j hj => ?_⟩
      unfold va_up
      rw [i2]
      by_cases e : j = x.toInt.toNat
      · rw [if_pos e, if_pos e]
        exact ⟨_, hb2, rfl⟩
      · rw [if_neg e, if_neg e]; exact hf j hj
    · cases h
  · cases h
theorem ztys_app {tys : List (ClassId × FieldType)} {q0 : ClassId × FieldType} : ∀ (t : Nat) (q : ClassId × FieldType), tys[t]? = some q → (tys ++ [q0])[t]? = some q := fun t q h => by rw [List.getElem?_append_left (List.getElem?_eq_some_iff.mp h).1]; exact h
theorem ztys_last {tys : List (ClassId × FieldType)} {q0 : ClassId × FieldType} : (tys ++ [q0])[tys.length]? = some q0 := by rw [List.getElem?_append_right (Nat.le_refl _), Nat.sub_self]; rfl
/-- a class's fields as they are at first -/
def zdef (c : Nat) : List Value := (List.range (znf c)).map (fun j => defaultValue (zty c j))
theorem ztok : ∀ c, c < 11 → ∀ k, k < znf c → (zty c k = .int ∨ zty c k = .long ∨ zty c k = .boolean ∨ fits (zty c k) .null = true) := by decide +kernel
theorem zdef_FR {ws : va_W} (t : FieldType) (ht : t = .int ∨ t = .long ∨ t = .boolean ∨ fits t .null = true) : zFR ws t 0 0 (defaultValue t) := by
  rcases ht with rfl | rfl | rfl | ht
  · exact ⟨0, rfl, rfl⟩
  · exact ⟨0, rfl, rfl⟩
  · exact ⟨0, rfl, rfl⟩
  · rw [zFR_ref ht]
    show defaultValue t = .null
    cases t <;> first | rfl | (simp [fits] at ht)
theorem zdef_get {c j : Nat} {v : Value} (h : (zdef c)[j]? = some v) : j < znf c ∧ v = defaultValue (zty c j) := by
  unfold zdef at h
  rw [List.getElem?_map] at h
  obtain ⟨k, hk, rfl⟩ := Option.map_eq_some_iff.mp h
  have hl := (List.getElem?_eq_some_iff.mp hk).1
  rw [List.length_range] at hl
  rw [List.getElem?_range hl] at hk
  cases hk
  exact ⟨hl, rfl⟩
theorem zs_new (hx : p.tables.exec = Jvm.exec) (hb : c.code = cc) {own i n : Nat} {Ts : List Cond} (hown : s.vm.findClass (znm own) = some m.cls) (hts : ∀ w ∈ Ts, w.before args s = true) (hc0 : n / 256 < 11) (hn0 : n % 256 = znf (n / 256)) (hin : ∀ w ∈ u_ws (znm (n / 256)) (zTT (n / 256)) (znf (n / 256)), w ∈ Ts) (hcl : (Cond.classLink (znm own) i (znm (n / 256))).before args s = true) (hins : (Cond.instantiable (znm (n / 256)) (znf (n / 256))).before args s = true) (hini : (Cond.initialized (znm (n / 256))).before args s = true)
    (hA : ∀ q, s.heap.size ≤ q → A q) (hrc : rf.2.2.2.1 - σ0.2.2.2.1 ≤ R.cells) (hrs : rf.2.2.2.2 - σ0.2.2.2.2 ≤ R.slots) (hd : decode cc pc = .ok (.new i, 3)) (hk : ∀ pc ls st σ, k pc ls st σ = some (rv, rf) → zG p l e R s m args below meth c Q D A pa ws0 σ0 rf pc ls st σ) (h : zstep X C (.new n) ls st σ (pc + 3) k = some (rv, rf)) : zG p l e R s m args below meth c Q D A pa ws0 σ0 rf pc ls st σ := by
  simp only [zstep] at h
  obtain ⟨hz0c, -, hty, -⟩ := zclass_ok _ hc0
  have hz := hk _ _ _ _ h
  have hm1 : σ.2.2.2.1 + 1 ≤ rf.2.2.2.1 := hz.1.1
  have hm2 : σ.2.2.2.2 + n % 256 ≤ rf.2.2.2.2 := hz.1.2
  rw [hn0] at hm2
  refine ⟨⟨by omega, by omega⟩, fun ws tys H locs mls mst hn hK hR hP hD hS hxx hl hst => ?_⟩
  obtain ⟨hn1, hn2⟩ := hn
  refine va_new hx hb hts hin (zty (n / 256)) hty hown hcl hins hini hK hP hD hS hA hz0c (fs := zdef (n / 256)) (fun j hj => ?_) (by omega) (by omega) hd (fun q H1 hP1 hD1 hS1 => ?_)
  · unfold zdef vp_V
    rw [List.getD_eq_getElem?_getD, List.getElem?_map, List.getElem?_range hj]
    rfl
  · have e1 : σ.2.2.2.1 - σ0.2.2.2.1 + 1 = (zmake σ (1, (n / 256, 0)) (n % 256)).2.2.2.1 - σ0.2.2.2.1 := by show _ = σ.2.2.2.1 + 1 - σ0.2.2.2.1; omega
    have e2 : σ.2.2.2.2 - σ0.2.2.2.2 + znf (n / 256) = (zmake σ (1, (n / 256, 0)) (n % 256)).2.2.2.2 - σ0.2.2.2.2 := by show _ = σ.2.2.2.2 + n % 256 - σ0.2.2.2.2; omega
    rw [e1, e2]
    have hx1 := zext.app ws [(q, .inr (n / 256, zdef (n / 256)))]
    refine hz.2 _ tys H1 locs mls _ ⟨by show _ ≤ σ.2.2.2.1 + 1; omega, by show _ ≤ σ.2.2.2.2 + n % 256; omega⟩ hK (hR.make (fun _ _ h => h) (zCR_mk hc0 (by unfold zdef; rw [List.length_map, List.length_range]) (fun j v hv => ?_))) hP1 hD1 hS1 (hxx.trans hx1) (hl.mono hx1) ⟨_, _, rfl, ?_, hst.mono hx1⟩
    · obtain ⟨h1, rfl⟩ := zdef_get hv
      exact zdef_FR _ (ztok _ hc0 _ h1)
    · show zRR _ (σ.2.2.2.1 + 1) _
      refine ⟨(q, .inr (n / 256, zdef (n / 256))), ?_, rfl⟩
      rw [← hR.1, List.getElem?_append_right (Nat.le_refl _), Nat.sub_self]
      rfl
theorem zRR_last {ws : va_W} {q : Nat} {e : va_E} {n : Nat} (h : ws.length = n) : zRR (ws ++ [(q, e)]) (n + 1) (.ref q) := ⟨(q, e), by rw [← h, List.getElem?_append_right (Nat.le_refl _), Nat.sub_self]; rfl, rfl⟩
theorem znneg {x : Int32} (h : 0 ≤ x.toInt) : ¬ x < 0 := by rw [zn_lt0]; omega
theorem zs_newarray (hx : p.tables.exec = Jvm.exec) (hb : c.code = cc) (hA : ∀ q, s.heap.size ≤ q → A q) (hrc : rf.2.2.2.1 - σ0.2.2.2.1 ≤ R.cells) (hrs : rf.2.2.2.2 - σ0.2.2.2.2 ≤ R.slots) (hai : (Cond.arrayClass .int).before args s = true) (hal : (Cond.arrayClass .long).before args s = true) (hab : (Cond.arrayClass .byte).before args s = true) {t : ArrayType} (hd : decode cc pc = .ok (.newarray t, 2)) (hk : ∀ pc ls st σ, k pc ls st σ = some (rv, rf) → zG p l e R s m args below meth c Q D A pa ws0 σ0 rf pc ls st σ) (h : zstep X C (.newarray t) ls st σ (pc + 2) k = some (rv, rf)) : zG p l e R s m args below meth c Q D A pa ws0 σ0 rf pc ls st σ := by
  simp only [zstep] at h
  split at h
  · next n r =>
    split at h
    · next hc =>
      have fin : ∀ (kd : Nat) (ty : FieldType) (a0 : Nat → vp_A), (Cond.arrayClass (newarray.typeOf t)).before args s = true → newarray.typeOf t = ty → (∀ (N : Nat) (cA : ClassId), vp_cell cA (a0 N) = arrV cA N (fun _ => defaultValue ty)) → componentBytes ty ≤ 8 → k (pc + 2) ls (.inr (.inr (.inl (σ.2.2.2.1 + 1))) :: r) (zmake σ (kd, (n.toNat, 0)) n.toNat) = some (rv, rf) →
          (∀ (ws : va_W) (tys : List (ClassId × FieldType)) (N : Nat) (cA : ClassId), (∃ t : Nat, tys[t]? = some (cA, ty)) → zCR ws tys (kd, (N, 0)) (fun _ => 0) (fun _ => 0) (.inl (cA, a0 N))) → zG p l e R s m args below meth c Q D A pa ws0 σ0 rf pc ls (.inl n :: r) σ := by
        intro kd ty a0 harr hty ha hcb hv hcr
        have hz := hk _ _ _ _ hv
        have hm1 : σ.2.2.2.1 + 1 ≤ rf.2.2.2.1 := hz.1.1
        have hm2 : σ.2.2.2.2 + n.toNat ≤ rf.2.2.2.2 := hz.1.2
        refine ⟨⟨by omega, by omega⟩, fun ws tys H locs mls mst hn hK hR hP hD hS hxx hl hst => ?_⟩
        obtain ⟨hn1, hn2⟩ := hn
        obtain ⟨_, m2, rfl, ⟨x, rfl, hx1⟩, hst⟩ := hst
        have hxN : x.toNatClampNeg = n.toNat := by rw [← hx1]; rfl
        refine va_newa hx hb harr hty hK hP hD hS hA (N' := n.toNat) (ha n.toNat) (znneg (by omega)) hxN ?_ (by omega) (by omega) hd (fun q cA H1 hK1 hP1 hD1 hS1 => ?_)
        · have : n.toNat ≤ 100000 := by omega
          calc n.toNat * componentBytes ty ≤ 100000 * 8 := Nat.mul_le_mul this hcb
            _ ≤ 536870912 := by decide
        · have e1 : σ.2.2.2.1 - σ0.2.2.2.1 + 1 = (zmake σ (kd, (n.toNat, 0)) n.toNat).2.2.2.1 - σ0.2.2.2.1 := by show _ = σ.2.2.2.1 + 1 - σ0.2.2.2.1; omega
          have e2 : σ.2.2.2.2 - σ0.2.2.2.2 + n.toNat = (zmake σ (kd, (n.toNat, 0)) n.toNat).2.2.2.2 - σ0.2.2.2.2 := by show _ = σ.2.2.2.2 + n.toNat - σ0.2.2.2.2; omega
          rw [e1, e2]
          have hx2 := zext.app ws [(q, .inl (cA, a0 n.toNat))]
          exact hz.2 _ _ H1 locs mls _ ⟨by show _ ≤ σ.2.2.2.1 + 1; omega, by show _ ≤ σ.2.2.2.2 + n.toNat; omega⟩ hK1 (hR.make ztys_app (hcr _ _ _ _ ⟨_, ztys_last⟩)) hP1 hD1 hS1 (hxx.trans hx2) (hl.mono hx2) ⟨_, _, rfl, zRR_last hR.1, hst.mono hx2⟩
      split at h
      · exact fin 2 .int (fun N => (N, .inl (fun _ => 0))) hai rfl (fun N cA => rfl) (by decide) h (fun ws tys N cA ⟨t, ht⟩ => ⟨t, cA, _, ht, rfl, fun j hj => rfl⟩)
      · exact fin 3 .long (fun N => (N, .inr (.inl (fun _ => 0)))) hal rfl (fun N cA => rfl) (by decide) h (fun ws tys N cA ⟨t, ht⟩ => ⟨t, cA, _, ht, rfl, fun j hj => rfl⟩)
      · exact fin 4 .byte (fun N => (N, .inl (fun _ => 0))) hab rfl (fun N cA => rfl) (by decide) h (fun ws tys N cA ⟨t, ht⟩ => ⟨t, cA, _, ht, rfl, fun j hj => rfl⟩)
      · cases h
    · cases h
  · cases h
theorem zs_anewarray (hx : p.tables.exec = Jvm.exec) (hb : c.code = cc) {own i c0 : Nat} (hown : s.vm.findClass (znm own) = some m.cls) (hcl : (Cond.classLink (znm own) i (znm c0)).before args s = true) (hov : va_AO (znm c0) s) (hA : ∀ q, s.heap.size ≤ q → A q) (hrc : rf.2.2.2.1 - σ0.2.2.2.1 ≤ R.cells) (hrs : rf.2.2.2.2 - σ0.2.2.2.2 ≤ R.slots) (hd : decode cc pc = .ok (.anewarray i, 3)) (hk : ∀ pc ls st σ, k pc ls st σ = some (rv, rf) → zG p l e R s m args below meth c Q D A pa ws0 σ0 rf pc ls st σ) (h : zstep X C (.anewarray c0) ls st σ (pc + 3) k = some (rv, rf)) : zG p l e R s m args below meth c Q D A pa ws0 σ0 rf pc ls st σ := by
  simp only [zstep] at h
  split at h
  · next n r =>
    split at h
    · next hc =>
      have hz := hk _ _ _ _ h
      have hm1 : σ.2.2.2.1 + 1 ≤ rf.2.2.2.1 := hz.1.1
      have hm2 : σ.2.2.2.2 + n.toNat ≤ rf.2.2.2.2 := hz.1.2
      refine ⟨⟨by omega, by omega⟩, fun ws tys H locs mls mst hn hK hR hP hD hS hxx hl hst => ?_⟩
      obtain ⟨hn1, hn2⟩ := hn
      obtain ⟨_, m2, rfl, ⟨x, rfl, hx1⟩, hst⟩ := hst
      have hxN : x.toNatClampNeg = n.toNat := by rw [← hx1]; rfl
      refine va_newq hx hb hown hcl hov hK hP hD hS hA (N' := n.toNat) (znneg (by omega)) hxN (by omega) (by omega) (by omega) hd (fun q cA H1 hK1 hP1 hD1 hS1 => ?_)
      have e1 : σ.2.2.2.1 - σ0.2.2.2.1 + 1 = (zmake σ (5, (n.toNat, c0)) n.toNat).2.2.2.1 - σ0.2.2.2.1 := by show _ = σ.2.2.2.1 + 1 - σ0.2.2.2.1; omega
      have e2 : σ.2.2.2.2 - σ0.2.2.2.2 + n.toNat = (zmake σ (5, (n.toNat, c0)) n.toNat).2.2.2.2 - σ0.2.2.2.2 := by show _ = σ.2.2.2.2 + n.toNat - σ0.2.2.2.2; omega
      rw [e1, e2]
      have hx2 := zext.app ws [(q, .inl (cA, (n.toNat, .inr (.inr (.inr (.inr (fun _ => none)))))))]
      exact hz.2 _ _ H1 locs mls _ ⟨by show _ ≤ σ.2.2.2.1 + 1; omega, by show _ ≤ σ.2.2.2.2 + n.toNat; omega⟩ hK1 (hR.make ztys_app ⟨_, cA, (fun _ => none), ztys_last, rfl, fun j hj => (rfl : va_rf none = Value.null)⟩) hP1 hD1 hS1 (hxx.trans hx2) (hl.mono hx2) ⟨_, _, rfl, zRR_last hR.1, hst.mono hx2⟩
    · cases h
  · cases h
theorem zs_nop (hx : p.tables.exec = Jvm.exec) (hb : c.code = cc) {own i : Nat} (hown : s.vm.findClass (znm own) = some m.cls) (hlk : (Cond.methodLink (znm own) i objectInit).before args s = true) (hins : (Cond.instanceMethod objectInit).before args s = true) (hco : (Cond.code objectInit ⟨#[0xb1]⟩ 1 none).before args s = true) (hml : c.maxLocals = ls.length) (hfr : 4 ≤ R.frames) (hlo : 200 ≤ R.locals) (hd : decode cc pc = .ok (.invokespecial i, 3)) (hk : ∀ pc ls st σ, k pc ls st σ = some (rv, rf) → zG p l e R s m args below meth c Q D A pa ws0 σ0 rf pc ls st σ) (h : zstep X C .nop ls st σ (pc + 3) k = some (rv, rf)) : zG p l e R s m args below meth c Q D A pa ws0 σ0 rf pc ls st σ := by
  simp only [zstep] at h
  split at h
  · split at h
    · next a r _ hsum =>
      split at h
      · cases h
      next ha0 =>
      have hs8 : (r.map zcat).sum ≤ 8 := Nat.ble_eq.mp hsum
      have hz := hk _ _ _ _ h
      refine ⟨hz.1, fun ws tys H locs mls mst hn hK hR hP hD hS hxx hl hst => ?_⟩
      obtain ⟨w, m2, rfl, hw, hst⟩ := hst
      have hsz := hst.sum
      cases a with
      | zero => exact absurd rfl ha0
      | succ b =>
        obtain ⟨q, hq, rfl⟩ := (show zRR ws (b + 1) w from hw)
        exact W.objInit hx hb hown hlk hins hco (g := F0 m pc mls (.ref q.1 :: m2)) rfl (by show mls.size = _; rw [hl.1, hml]) rfl hd (by omega) (by show 2 * 0 + _ + 12 ≤ _; omega) (hz.2 ws tys H locs mls m2 hn hK hR hP hD hS hxx hl hst)
    · cases h
  · cases h
end ZOPS4
end
section
/-! ONE STEP OF THE SMALL MACHINE IS ONE INSTRUCTION OF THE MACHINE: what was there before, Math, rows copied, rows of rows. -/
/-- the numbers of one cell are changed -/
theorem zRel.setRow {σ σ' : zMem} {ws : va_W} {tys : List (ClassId × FieldType)} {b a : Nat} {e e' : va_E} (h : zRel σ ws tys) (hb : ws[b]? = some (a, e)) (hI : ∀ a', a' ≠ b + 1 → σ'.1 a' = σ.1 a') (h2 : σ'.2 = σ.2) (hc : zCR ws tys (σ.2.2.1 (b + 1)) (σ'.1 (b + 1)) (σ.2.1 (b + 1)) e') : zRel σ' (ws.set b (a, e')) tys := by
  refine ⟨by rw [List.length_set, h2]; exact h.1, by rw [h2]; exact h.2.1, fun b' q hq => ?_⟩
  have hx := zext.set (e' := e') hb
  rw [h2]
  by_cases hbb : b' = b
  · subst hbb
    rw [List.getElem?_set_self (List.getElem?_eq_some_iff.mp hb).1] at hq
    cases hq
    exact hc.mono hx (fun _ _ h => h)
  · rw [List.getElem?_set_ne (Ne.symm hbb)] at hq
    have := (h.2.2 b' q hq).mono hx (fun _ _ h => h)
    rw [hI _ (fun q => hbb (by omega))]
    exact this
/-- the row of rows -/
def va_E_outer (cA : ClassId) (N : Nat) (r : Nat → Nat) : va_E := .inl (cA, (N, .inr (.inr (.inr (.inr (fun i => if i < N then some (r i) else none))))))
theorem zRel_multi {σ : zMem} {ws : va_W} {tys : List (ClassId × FieldType)} {q N M : Nat} {cA cy : ClassId} {r : Nat → Nat} (h : zRel σ ws tys) : zRel (zmulti σ N M) (ws ++ ((q, va_E_outer cA N r) :: (List.range N).map (fun i => (r i, .inl (cy, (M, .inr (.inl (fun _ => 0)))))))) ((tys ++ [(cA, .array .long)]) ++ [(cy, .long)]) := by
  have hl : ws.length = σ.2.2.2.1 := h.1
  have hrow : ∀ j, j < N → (ws ++ ((q, va_E_outer cA N r) :: (List.range N).map (fun i => (r i, (.inl (cy, (M, .inr (.inl (fun _ => 0)))) : va_E)))))[σ.2.2.2.1 + 1 + j]? = some (r j, .inl (cy, (M, .inr (.inl (fun _ => 0))))) := by
    intro j hj
    rw [List.getElem?_append_right (by omega), show σ.2.2.2.1 + 1 + j - ws.length = j + 1 by omega, List.getElem?_cons_succ, List.getElem?_map, List.getElem?_range hj]
    rfl
  refine ⟨?_, ?_, fun b x hb => ?_⟩
  · rw [List.length_append, List.length_cons, List.length_map, List.length_range, hl]
    show _ = σ.2.2.2.1 + 1 + N
    omega
  · simp only [zmulti]
    rw [if_neg (by omega), if_pos (by omega)]
    exact h.2.1
  · by_cases h1 : b < ws.length
    · rw [List.getElem?_append_left h1] at hb
      have hm := (h.2.2 b x hb).mono (zext.app ws ((q, va_E_outer cA N r) :: (List.range N).map (fun i => (r i, (.inl (cy, (M, .inr (.inl (fun _ => 0)))) : va_E))))) (ztys_app (q0 := (cA, .array .long)))
      have hm := hm.mono (zext.refl _) (ztys_app (q0 := (cy, .long)))
      have e1 : (zmulti σ N M).1 (b + 1) = σ.1 (b + 1) := by funext j; simp only [zmulti]; rw [if_pos (by omega)]
      have e2 : (zmulti σ N M).2.1 (b + 1) = σ.2.1 (b + 1) := by funext j; simp only [zmulti]; rw [if_neg (by omega), if_pos (by omega)]
      have e3 : (zmulti σ N M).2.2.1 (b + 1) = σ.2.2.1 (b + 1) := by simp only [zmulti]; rw [if_neg (by omega), if_pos (by omega)]
      rw [e1, e2, e3]
      exact hm
    · by_cases h2 : b = ws.length
      · subst h2
        rw [List.getElem?_append_right (Nat.le_refl _), Nat.sub_self] at hb
        cases hb
        have e3 : (zmulti σ N M).2.2.1 (ws.length + 1) = (6, (N, 0)) := by simp only [zmulti]; rw [if_pos (by omega)]
        have e2 : ∀ j, j < N → (zmulti σ N M).2.1 (ws.length + 1) j = σ.2.2.2.1 + 1 + j + 1 := by intro j hj; simp only [zmulti]; rw [if_pos (by omega), if_pos hj]; omega
        rw [e3]
        refine ⟨tys.length, cA, _, ?_, rfl, fun j hj => ?_⟩
        · rw [List.getElem?_append_left (by rw [List.length_append]; show _ < _ + 1; omega)]
          exact ztys_last
        · rw [e2 j hj, if_pos hj]
          exact ⟨_, hrow j hj, rfl⟩
      · have hlen := (List.getElem?_eq_some_iff.mp hb).1
        rw [List.length_append, List.length_cons, List.length_map, List.length_range] at hlen
        obtain ⟨j, rfl⟩ : ∃ j, b = σ.2.2.2.1 + 1 + j := ⟨b - (σ.2.2.2.1 + 1), by omega⟩
        rw [hrow j (by omega)] at hb
        cases hb
        have e3 : (zmulti σ N M).2.2.1 (σ.2.2.2.1 + 1 + j + 1) = (3, (M, 0)) := by simp only [zmulti]; rw [if_neg (by omega), if_neg (by omega), if_pos (by omega)]
        have e1 : (zmulti σ N M).1 (σ.2.2.2.1 + 1 + j + 1) = fun _ => 0 := by funext i; simp only [zmulti]; rw [if_neg (by omega)]
        rw [e3, e1]
        exact ⟨_, cy, _, ztys_last, rfl, fun j hj => rfl⟩
theorem znfw : nativeFrameWords "java/lang/System" "arraycopy" 5 = 7 := by decide +kernel
section ZOPS5
variable {p : Program} {l : Launch} {e : Env} {R : Room} {s : State} {m : MethodId} {args : Array Value} {below : List Frame} {meth : Method} {c : Code} {cc : ByteArray} {Q : State → Prop} {D : va_G} {A : Nat → Prop} {pa : Nat → Nat} {ws0 : va_W} {σ0 rf : zMem}
variable {pc nx : Nat} {ls : zLoc} {st : List zV} {σ : zMem} {k : zK} {X : zX} {C : zC} {rv : Option zV}
theorem zs_ldcS (hx : p.tables.exec = Jvm.exec) (hb : c.code = cc) {own i j : Nat} {tx : String} (hown : s.vm.findClass (znm own) = some m.cls) (hZ : vk_R (znm own) i tx (pa j) s) (hd : decode cc pc = .ok (.ldc i, 2)) (hk : ∀ pc ls st σ, k pc ls st σ = some (rv, rf) → zG p l e R s m args below meth c Q D A pa ws0 σ0 rf pc ls st σ) (h : zstep X C (.ldc j) ls st σ (pc + 2) k = some (rv, rf)) : zG p l e R s m args below meth c Q D A pa ws0 σ0 rf pc ls st σ :=
  zG_step (hk _ _ _ _ h) (fun ws H locs cells slots mls mst hS hl hs kk => va_ldcS hx hb hown hZ hd (kk mls _ hl ⟨_, _, rfl, rfl, hs⟩))
theorem zs_getstatic (hx : p.tables.exec = Jvm.exec) (hb : c.code = cc) {own i j : Nat} {O n d : String} (hown : s.vm.findClass (znm own) = some m.cls) (hZ : va_Z O n d (.ref (pa j)) A s s.heap) (hlk : (Cond.fieldLink (znm own) i O n d).before args s = true ∨ ∃ host, (Cond.fieldLinkNest (znm own) i O n d host).before args s = true) (hd : decode cc pc = .ok (.getstatic i, 3)) (hk : ∀ pc ls st σ, k pc ls st σ = some (rv, rf) → zG p l e R s m args below meth c Q D A pa ws0 σ0 rf pc ls st σ) (h : zstep X C (.getstatic j) ls st σ (pc + 3) k = some (rv, rf)) : zG p l e R s m args below meth c Q D A pa ws0 σ0 rf pc ls st σ :=
  zG_step (hk _ _ _ _ h) (fun ws H locs cells slots mls mst hS hl hs kk => by
    rcases hlk with hlk | ⟨host, hlk⟩
    · exact va_gets hx hb hZ hS hown hlk (fun _ h => h) hd (kk mls _ hl ⟨_, _, rfl, rfl, hs⟩)
    · exact va_getsN hx hb hZ hS hown hlk (fun _ h => h) hd (kk mls _ hl ⟨_, _, rfl, rfl, hs⟩))
theorem zs_fadd (hx : p.tables.exec = Jvm.exec) (hb : c.code = cc) {own i : Nat} (hown : s.vm.findClass (znm own) = some m.cls) (hlk : (Cond.methodLink (znm own) i Lib.Math.min.name).before args s = true) (hst : (Cond.static Lib.Math.min.name).before args s = true) (hini : (Cond.initialized "java/lang/Math").before args s = true) (hco : (Cond.code Lib.Math.min.name Lib.Math.min.code 2 (some .int)).before args s = true) (hml : c.maxLocals = ls.length) (hfr : 4 ≤ R.frames) (hlo : 200 ≤ R.locals) (hrc : rf.2.2.2.1 - σ0.2.2.2.1 ≤ R.cells) (hrs : rf.2.2.2.2 - σ0.2.2.2.2 ≤ R.slots) (hd : decode cc pc = .ok (.invokestatic i, 3)) (hk : ∀ pc ls st σ, k pc ls st σ = some (rv, rf) → zG p l e R s m args below meth c Q D A pa ws0 σ0 rf pc ls st σ) (h : zstep X C .fadd ls st σ (pc + 3) k = some (rv, rf)) : zG p l e R s m args below meth c Q D A pa ws0 σ0 rf pc ls st σ := by
  simp only [zstep] at h
  split at h
  · split at h
    · next y x r _ hsum =>
      have hs8 : (r.map zcat).sum ≤ 8 := Nat.ble_eq.mp hsum
      have hz := hk _ _ _ _ h
      refine ⟨hz.1, fun ws tys H locs mls mst hn hK hR hP hD hS hxx hl hst' => ?_⟩
      obtain ⟨hz1, hz2⟩ := hz.1
      obtain ⟨_, _, rfl, ⟨y, rfl, rfl⟩, _, m2, rfl, ⟨x, rfl, rfl⟩, hst'⟩ := hst'
      have hsz := hst'.sum
      refine va_mmin hx hb (by rw [hl.1, hml]) hown hlk hst hini hco (by omega) (by omega) (by omega) (by omega) hd (hz.2 ws tys H locs mls _ hn hK hR hP hD hS hxx hl (zSR_int ?_ hst'))
      by_cases e : y < x
      · rw [if_pos e, if_pos ((zn_lt y x).mp e)]
      · rw [if_neg e, if_neg (fun q => e ((zn_lt y x).mpr q))]
    · cases h
  · cases h
theorem zs_fsub (hx : p.tables.exec = Jvm.exec) (hb : c.code = cc) {own i : Nat} (hown : s.vm.findClass (znm own) = some m.cls) (hlk : (Cond.methodLink (znm own) i Lib.Math.max.name).before args s = true) (hst : (Cond.static Lib.Math.max.name).before args s = true) (hini : (Cond.initialized "java/lang/Math").before args s = true) (hco : (Cond.code Lib.Math.max.name Lib.Math.max.code 2 (some .int)).before args s = true) (hml : c.maxLocals = ls.length) (hfr : 4 ≤ R.frames) (hlo : 200 ≤ R.locals) (hrc : rf.2.2.2.1 - σ0.2.2.2.1 ≤ R.cells) (hrs : rf.2.2.2.2 - σ0.2.2.2.2 ≤ R.slots) (hd : decode cc pc = .ok (.invokestatic i, 3)) (hk : ∀ pc ls st σ, k pc ls st σ = some (rv, rf) → zG p l e R s m args below meth c Q D A pa ws0 σ0 rf pc ls st σ) (h : zstep X C .fsub ls st σ (pc + 3) k = some (rv, rf)) : zG p l e R s m args below meth c Q D A pa ws0 σ0 rf pc ls st σ := by
  simp only [zstep] at h
  split at h
  · split at h
    · next y x r _ hsum =>
      have hs8 : (r.map zcat).sum ≤ 8 := Nat.ble_eq.mp hsum
      have hz := hk _ _ _ _ h
      refine ⟨hz.1, fun ws tys H locs mls mst hn hK hR hP hD hS hxx hl hst' => ?_⟩
      obtain ⟨hz1, hz2⟩ := hz.1
      obtain ⟨_, _, rfl, ⟨y, rfl, rfl⟩, _, m2, rfl, ⟨x, rfl, rfl⟩, hst'⟩ := hst'
      have hsz := hst'.sum
      refine va_mmax hx hb (by rw [hl.1, hml]) hown hlk hst hini hco (by omega) (by omega) (by omega) (by omega) hd (hz.2 ws tys H locs mls _ hn hK hR hP hD hS hxx hl (zSR_int ?_ hst'))
      by_cases e : x < y
      · rw [if_pos e, if_pos ((zn_lt x y).mp e)]
      · rw [if_neg e, if_neg (fun q => e ((zn_lt x y).mpr q))]
    · cases h
  · cases h
theorem zs_swap (hx : p.tables.exec = Jvm.exec) (hb : c.code = cc) {own i : Nat} (hown : s.vm.findClass (znm own) = some m.cls) (hlk : (Cond.methodLink (znm own) i arraycopyName).before args s = true) (hnat : (Cond.native arraycopyName).before args s = true) (hst : (Cond.static arraycopyName).before args s = true) (hini : (Cond.initialized "java/lang/System").before args s = true) (hml : c.maxLocals = ls.length) (hfr : 4 ≤ R.frames) (hlo : 200 ≤ R.locals) (hd : decode cc pc = .ok (.invokestatic i, 3)) (hk : ∀ pc ls st σ, k pc ls st σ = some (rv, rf) → zG p l e R s m args below meth c Q D A pa ws0 σ0 rf pc ls st σ) (h : zstep X C .swap ls st σ (pc + 3) k = some (rv, rf)) : zG p l e R s m args below meth c Q D A pa ws0 σ0 rf pc ls st σ := by
  simp only [zstep] at h
  split at h
  · split at h
    · next n dp dst sp src r _ hsum =>
      split at h
      · next hc =>
        obtain ⟨c1, c2, c3, c4, c5, c6, c7⟩ := hc
        have hs8 : (r.map zcat).sum ≤ 8 := Nat.ble_eq.mp hsum
        have hz := hk _ _ _ _ h
        refine ⟨hz.1, fun ws tys H locs mls mst hn hK hR hP hD hS hxx hl hst' => ?_⟩
        obtain ⟨_, _, rfl, ⟨n, rfl, rfl⟩, _, _, rfl, ⟨dp, rfl, rfl⟩, w1, _, rfl, hw1, _, _, rfl, ⟨sp, rfl, rfl⟩, w2, m2, rfl, hw2, hst'⟩ := hst'
        have hsz := hst'.sum
        obtain ⟨bd, qd, ed, rfl, hb1, rfl, hcd⟩ := hR.at (show zRR ws dst w1 from hw1) (by rw [c2]; decide)
        obtain ⟨bs, qs, es, rfl, hb2, rfl, hcs⟩ := hR.at (show zRR ws src w2 from hw2) (by rw [c1]; decide)
        simp only [zCR, c2] at hcd
        simp only [zCR, c1] at hcs
        obtain ⟨td, cd, fd, htd, rfl, hfd⟩ := hcd
        obtain ⟨ts, cs, fs, hts, rfl, hfs⟩ := hcs
        have en : n.toNatClampNeg = n.toInt.toNat := rfl
        have ed : dp.toNatClampNeg = dp.toInt.toNat := rfl
        have es : sp.toNatClampNeg = sp.toInt.toNat := rfl
        refine va_copyi hx hb (by rw [hl.1, hml]) hown hlk hnat hst hini hK hP hD hS bs bd ts td hb2 hb1 hts htd rfl (znneg c3) (znneg c4) (znneg c5) (by rw [en, es]; omega) (by rw [en, ed]; omega) (fun _ _ => rfl) (by omega) (by rw [znfw]; omega) hd (fun H1 locs1 hP1 hD1 hS1 => ?_)
        have hx1 := zext.set (e' := .inl (cd, ((σ.2.2.1 (bd + 1)).2.1, .inl (va_cpy fs fd sp.toNatClampNeg dp.toNatClampNeg n.toNatClampNeg)))) hb1
        refine hz.2 _ tys H1 locs1 mls m2 hn hK (hR.setRow hb1 (fun a' ha' => ?_) rfl ?_) hP1 hD1 hS1 (hxx.trans hx1) (hl.mono hx1) (hst'.mono hx1)
        · funext j
          simp only [zcopy]
          rw [if_neg (fun q => ha' q.1)]
        · simp only [zCR, c2]
          refine ⟨td, cd, _, htd, rfl, fun j hj => ?_⟩
          simp only [zcopy]
          unfold va_cpy
          rw [en, ed, es]
          by_cases e : dp.toInt.toNat ≤ j ∧ j < dp.toInt.toNat + n.toInt.toNat
          · rw [if_pos e, if_pos (by exact ⟨trivial, e⟩)]
            exact hfs _ (by omega)
          · rw [if_neg e, if_neg (fun q => e q.2)]
            exact hfd _ hj
      · cases h
    · cases h
  · cases h
theorem zs_multi (hx : p.tables.exec = Jvm.exec) (hb : c.code = cc) {own i : Nat} (hown : s.vm.findClass (znm own) = some m.cls) (hcl : (Cond.classLink (znm own) i "[[J").before args s = true) (hov : va_AOA .long s) (hal : (Cond.arrayClass .long).before args s = true) (hA : ∀ q, s.heap.size ≤ q → A q) (hrc : rf.2.2.2.1 - σ0.2.2.2.1 ≤ R.cells) (hrs : rf.2.2.2.2 - σ0.2.2.2.2 ≤ R.slots) (hd : decode cc pc = .ok (.multianewarray i 2, 4)) (hk : ∀ pc ls st σ, k pc ls st σ = some (rv, rf) → zG p l e R s m args below meth c Q D A pa ws0 σ0 rf pc ls st σ) (h : zstep X C (.multianewarray 0 2) ls st σ (pc + 4) k = some (rv, rf)) : zG p l e R s m args below meth c Q D A pa ws0 σ0 rf pc ls st σ := by
  simp only [zstep] at h
  split at h
  · next mm n r =>
    split at h
    · next hc =>
      obtain ⟨cy, kA, comp, hcy, hkA, hkind⟩ := Cond.arrayClass_spec hal
      have hAr : ArrOfT s cy .long := fun N z => ⟨(fun q hq => by cases hq), kA, hkA, comp, hkind⟩
      have hz := hk _ _ _ _ h
      have hm1 : σ.2.2.2.1 + 1 + n.toNat ≤ rf.2.2.2.1 := hz.1.1
      have hm2 : σ.2.2.2.2 + n.toNat + n.toNat * mm.toNat ≤ rf.2.2.2.2 := hz.1.2
      refine ⟨⟨by omega, by omega⟩, fun ws tys H locs mls mst hn hK hR hP hD hS hxx hl hst => ?_⟩
      obtain ⟨hn1, hn2⟩ := hn
      obtain ⟨_, _, rfl, ⟨x, rfl, hx1⟩, _, m2, rfl, ⟨y, rfl, hy1⟩, hst⟩ := hst
      have hxN : x.toNatClampNeg = mm.toNat := by rw [← hx1]; rfl
      have hyN : y.toNatClampNeg = n.toNat := by rw [← hy1]; rfl
      have hP' : va_P D zcl (ws ++ va_pl [] (fun _ => .inr (0, []))) H := by simpa [va_pl] using hP
      have hD' : va_D A (ws ++ va_pl [] (fun _ => .inr (0, []))) := by simpa [va_pl] using hD
      refine va_mna hx hb hown hcl hov hal hcy hK hP' hD' hS hA (N' := n.toNat) (K' := mm.toNat) (z := (mm.toNat, .inr (.inl (fun _ => 0)))) (znneg (by omega)) (znneg (by omega)) hyN hxN (by omega) (by show _ * 8 ≤ _; omega) (by omega) rfl rfl (by omega) (by omega) (fun cc' => arrV_new cc' mm.toNat _) hd (fun q r' cA H1 hinj hnin hK1 hP1 hD1 hS1 => ?_)
      have hK2 : va_K D zcl ((tys ++ [(cA, .array .long)]) ++ [(cy, .long)]) s := by
        refine ⟨hK1.1, fun k9 x9 hx9 => ?_⟩
        by_cases hlt : k9 < (tys ++ [(cA, FieldType.array .long)]).length
        · rw [List.getElem?_append_left hlt] at hx9
          exact hK1.2 k9 x9 hx9
        · rw [List.getElem?_append_right (by omega)] at hx9
          have h1 : k9 - (tys ++ [(cA, FieldType.array .long)]).length < 1 := (List.getElem?_eq_some_iff.mp hx9).1
          rw [show k9 - (tys ++ [(cA, FieldType.array .long)]).length = 0 by omega] at hx9
          cases hx9
          exact ⟨hAr, hcy⟩
      have ews : ((ws ++ [(q, va_E_outer cA n.toNat r')]) ++ va_pl ([] ++ (List.range n.toNat).map r') (vr_up (fun _ => .inr (0, [])) ((List.range n.toNat).map r') (.inl (cy, (mm.toNat, .inr (.inl (fun _ => 0))))))) = ws ++ ((q, va_E_outer cA n.toNat r') :: (List.range n.toNat).map (fun i => (r' i, .inl (cy, (mm.toNat, .inr (.inl (fun _ => 0))))))) := by
        rw [List.append_assoc, List.nil_append]
        congr 1
        rw [List.singleton_append]
        congr 1
        unfold va_pl
        rw [List.map_map]
        apply List.map_congr_left
        intro i hi
        show (r' i, vr_up _ _ _ (r' i)) = _
        rw [vr_up_in (List.mem_map.mpr ⟨i, hi, rfl⟩)]
      rw [show ((ws ++ [(q, Sum.inl (cA, (n.toNat, Sum.inr (Sum.inr (Sum.inr (Sum.inr (fun i => if i < n.toNat then some (r' i) else none)))))))]) ++ va_pl ([] ++ (List.range n.toNat).map r') (vr_up (fun _ => .inr (0, [])) ((List.range n.toNat).map r') (.inl (cy, (mm.toNat, .inr (.inl (fun _ => 0))))))) = _ from ews] at hP1 hD1
      have e1 : σ.2.2.2.1 - σ0.2.2.2.1 + 1 + n.toNat = (zmulti σ n.toNat mm.toNat).2.2.2.1 - σ0.2.2.2.1 := by show _ = σ.2.2.2.1 + 1 + n.toNat - σ0.2.2.2.1; omega
      have e2 : σ.2.2.2.2 - σ0.2.2.2.2 + n.toNat + n.toNat * mm.toNat = (zmulti σ n.toNat mm.toNat).2.2.2.2 - σ0.2.2.2.2 := by show _ = σ.2.2.2.2 + n.toNat + n.toNat * mm.toNat - σ0.2.2.2.2; omega
      rw [e1, e2]
      have hx2 := zext.app ws ((q, va_E_outer cA n.toNat r') :: (List.range n.toNat).map (fun i => (r' i, .inl (cy, (mm.toNat, .inr (.inl (fun _ => 0)))))))
      refine hz.2 _ _ H1 locs mls _ ⟨by show _ ≤ σ.2.2.2.1 + 1 + _; omega, by show _ ≤ σ.2.2.2.2 + _ + _; omega⟩ hK2 (zRel_multi hR) hP1 hD1 hS1 (hxx.trans hx2) (hl.mono hx2) ⟨_, _, rfl, ?_, hst.mono hx2⟩
      show zRR _ (σ.2.2.2.1 + 1) _
      refine ⟨(q, va_E_outer cA n.toNat r'), ?_, rfl⟩
      rw [← hR.1, List.getElem?_append_right (Nat.le_refl _), Nat.sub_self]
      rfl
    · cases h
  · cases h
end ZOPS5
end
section
/-! CALLS of the small machine: the arguments must fit the locals. -/
noncomputable def zcal (X : zX) (P : zT) : Nat → zC
  | 0 => fun _ _ _ => none
  | d + 1 => fun y as σ => match P y with
    | none => none
    | some q => match Nat.ble (zargs as).length q.1 with
      | true => zlim (fun n => zrun X (zcal X P d) q.2 n 0 (zinit as q.1) [] σ)
      | false => none
/-- the same, with so many steps for each method: to be counted out -/
def zcalF (X : zX) (P : zT) (F : Nat) : Nat → zC
  | 0 => fun _ _ _ => none
  | d + 1 => fun y as σ => match P y with
    | none => none
    | some q => match Nat.ble (zargs as).length q.1 with
      | true => zrun X (zcalF X P F d) q.2 F 0 (zinit as q.1) [] σ
      | false => none
theorem zcal_of {X : zX} {P : zT} {d y nl n : Nat} {code : List (Nat × (Instr × Nat))} {as : List zV} {σ : zMem} {r : Option zV × zMem} (hP : P y = some (nl, code)) (hl : (zargs as).length ≤ nl) (h : zrun X (zcal X P d) code n 0 (zinit as nl) [] σ = some r) : zcal X P (d + 1) y as σ = some r := by
  simp only [zcal, hP]
  rw [Nat.ble_eq_true_of_le hl]
  exact zlim_of (fun n r h => zrun_mono (fun _ _ _ _ h => h) n (n + 1) (by omega) _ _ _ _ _ h) h
theorem zcal_get {X : zX} {P : zT} {d y : Nat} {as : List zV} {σ : zMem} {r : Option zV × zMem} (h : zcal X P (d + 1) y as σ = some r) : ∃ nl code n, P y = some (nl, code) ∧ (zargs as).length ≤ nl ∧ zrun X (zcal X P d) code n 0 (zinit as nl) [] σ = some r := by
  simp only [zcal] at h
  cases hP : P y with
  | none => rw [hP] at h; cases h
  | some q =>
    rw [hP] at h
    simp only [] at h
    split at h
    · next hb =>
      obtain ⟨n, hn⟩ := zlim_get h
      exact ⟨q.1, q.2, n, rfl, Nat.ble_eq.mp hb, hn⟩
    · cases h
theorem zcalF_cal {X : zX} {P : zT} {F : Nat} : ∀ (d y : Nat) (as : List zV) (σ : zMem) (r : Option zV × zMem), zcalF X P F d y as σ = some r → zcal X P d y as σ = some r := by
  intro d
  induction d with
  | zero => intro y as σ r h; cases h
  | succ d ih =>
    intro y as σ r h
    simp only [zcalF] at h
    cases hP : P y with
    | none => rw [hP] at h; cases h
    | some q =>
      rw [hP] at h
      simp only [] at h
      split at h
      · next hb => exact zcal_of hP (Nat.ble_eq.mp hb) (zrun_mono ih F F (Nat.le_refl F) _ _ _ _ _ h)
      · cases h
theorem zcal_up {X : zX} {P : zT} : ∀ (d y : Nat) (as : List zV) (σ : zMem) (r : Option zV × zMem), zcal X P d y as σ = some r → zcal X P (d + 1) y as σ = some r := by
  intro d
  induction d with
  | zero => intro y as σ r h; cases h
  | succ d ih =>
    intro y as σ r h
    obtain ⟨nl, code, n, hP, hl, hn⟩ := zcal_get h
    exact zcal_of hP hl (zrun_mono ih n n (Nat.le_refl n) _ _ _ _ _ hn)
end
section
/-! CALLS: what a method of the small machine needs of the machine's start, what it leaves behind. -/
theorem zstep_le {X : zX} {C : zC} {i : Instr} {ls : zLoc} {st : List zV} {σ : zMem} {nx : Nat} {k : zK} {r : Option zV × zMem} (hC : ∀ y as σ r, C y as σ = some r → σ.2.2.2.1 ≤ r.2.2.2.2.1 ∧ σ.2.2.2.2 ≤ r.2.2.2.2.2) (hk : ∀ pc ls st σ r, k pc ls st σ = some r → σ.2.2.2.1 ≤ r.2.2.2.2.1 ∧ σ.2.2.2.2 ≤ r.2.2.2.2.2) (h : zstep X C i ls st σ nx k = some r) : σ.2.2.2.1 ≤ r.2.2.2.2.1 ∧ σ.2.2.2.2 ≤ r.2.2.2.2.2 := by
  have hmk : ∀ {kd n}, ((zmake σ kd n).2.2.2.1 ≤ r.2.2.2.2.1 ∧ (zmake σ kd n).2.2.2.2 ≤ r.2.2.2.2.2) → σ.2.2.2.1 ≤ r.2.2.2.2.1 ∧ σ.2.2.2.2 ≤ r.2.2.2.2.2 := fun {kd n} q => ⟨Nat.le_trans (Nat.le_succ _) q.1, Nat.le_trans (Nat.le_add_right _ _) q.2⟩
  have hmm : ∀ {n m}, ((zmulti σ n m).2.2.2.1 ≤ r.2.2.2.2.1 ∧ (zmulti σ n m).2.2.2.2 ≤ r.2.2.2.2.2) → σ.2.2.2.1 ≤ r.2.2.2.2.1 ∧ σ.2.2.2.2 ≤ r.2.2.2.2.2 := fun {n m} q => ⟨Nat.le_trans (Nat.le_trans (Nat.le_succ _) (Nat.le_add_right _ _)) q.1, Nat.le_trans (Nat.le_trans (Nat.le_add_right _ _) (Nat.le_add_right _ _)) q.2⟩
  cases i
  all_goals simp only [zstep] at h
  all_goals (repeat' split at h)
  all_goals first
    | (cases h; done)
    | exact hk _ _ _ _ _ h
    | (have q := hk _ _ _ _ _ h; exact q)
    | exact hmk (hk _ _ _ _ _ h)
    | exact hmm (hk _ _ _ _ _ h)
    | (cases h; exact ⟨Nat.le_refl _, Nat.le_refl _⟩)
    | (obtain ⟨q, h1, h2⟩ := Option.bind_eq_some_iff.mp h
       exact ⟨Nat.le_trans (hC _ _ _ _ h1).1 (hk _ _ _ _ _ h2).1, Nat.le_trans (hC _ _ _ _ h1).2 (hk _ _ _ _ _ h2).2⟩)
theorem zrun_le {X : zX} {C : zC} {code : List (Nat × (Instr × Nat))} (hC : ∀ y as σ r, C y as σ = some r → σ.2.2.2.1 ≤ r.2.2.2.2.1 ∧ σ.2.2.2.2 ≤ r.2.2.2.2.2) : ∀ (n pc : Nat) (ls : zLoc) (st : List zV) (σ : zMem) (r : Option zV × zMem), zrun X C code n pc ls st σ = some r → σ.2.2.2.1 ≤ r.2.2.2.2.1 ∧ σ.2.2.2.2 ≤ r.2.2.2.2.2 := by
  intro n
  induction n with
  | zero => intro pc ls st σ r h; cases h
  | succ n ih =>
    intro pc ls st σ r h
    simp only [zrun] at h
    split at h
    · cases h
    · exact zstep_le hC ih h
theorem zcal_le {X : zX} {P : zT} : ∀ (d y : Nat) (as : List zV) (σ : zMem) (r : Option zV × zMem), zcal X P d y as σ = some r → σ.2.2.2.1 ≤ r.2.2.2.2.1 ∧ σ.2.2.2.2 ≤ r.2.2.2.2.2 := by
  intro d
  induction d with
  | zero => intro y as σ r h; cases h
  | succ d ih =>
    intro y as σ r h
    obtain ⟨nl, code, n, -, -, hn⟩ := zcal_get h
    exact zrun_le ih n _ _ _ _ _ hn
theorem zpop_spec : ∀ (n : Nat) (st acc as r : List zV), zpop n st acc = some (as, r) → ∃ xs, st = xs ++ r ∧ xs.length = n ∧ as = xs.reverse ++ acc
  | 0, st, acc, as, r, h => by cases h; exact ⟨[], rfl, rfl, rfl⟩
  | n + 1, [], acc, as, r, h => by cases h
  | n + 1, v :: st, acc, as, r, h => by
    obtain ⟨xs, h1, h2, h3⟩ := zpop_spec n st (v :: acc) as r h
    exact ⟨v :: xs, by rw [h1]; rfl, by rw [List.length_cons, h2], by rw [h3, List.reverse_cons, List.append_assoc]; rfl⟩
def zBig : List Cond := lw_tbl.filter goodWord
def zws (q : zMt) : List Cond := Cond.code q.2.1 q.2.2.1 q.2.2.2.1 q.2.2.2.2.1 :: zBig
def zrm (d mc ms : Nat) : Room := { frames := d + 5, cells := mc, slots := ms, locals := 40 * d + 250 }
theorem zBig_in {w : Cond} (h : w ∈ lw_tbl) (hg : goodWord w = true) : w ∈ zBig := List.mem_filter.mpr ⟨h, hg⟩
theorem zlay_good {C : String} {T : u_T} {N : Nat} {w : Cond} (h : w ∈ u_ws C T N) : goodWord w = true := by
  obtain ⟨k, -, rfl⟩ := List.mem_map.mp h
  unfold u_lay
  split <;> rfl
def znest (w : Cond) : Bool := match w with
  | .fieldLinkNest .. => true
  | .methodLinkNest .. => true
  | _ => false
/-- the texts -/
def zchars (j : Nat) : List Int32 := (ztext j).toList.map (fun ch => Int32.ofNat ch.toNat)
/-- what stood there before the law began: the links between nest mates, the classes of rows, static rows, the script, the texts -/
def zEnv (A : Nat → Prop) (pa : Nat → Nat) (X : zX) (adV : Nat → Nat) (U : State) : Prop :=
  (∀ w ∈ lw_tbl, znest w = true → va_Nw w U) ∧ (∀ C, Cond.arrayOver (.object C) ∈ lw_tbl → va_AO C U) ∧ va_AOA .long U ∧
  (∀ j, 1 ≤ j → j ≤ 3 → va_Z (zstat j).1 (zstat j).2.1 (zstat j).2.2 (.ref (pa j)) A U U.heap ∧ va_T .int (pa j) (X j).1 (fun i => .int (Int32.ofInt ((X j).2 i))) A U U.heap ∧ (X j).1 < 2147483648 ∧ ∀ i, i < (X j).1 → w32 ((X j).2 i) = (X j).2 i) ∧
  (∃ (L : Nat) (xs : Nat → Int32), X 0 = (L, fun i => (xs i).toInt) ∧ L < 2147483648 ∧ va_X (pa 0) L xs U U.heap ∧ pa 0 < U.heap.size ∧ ¬ A (pa 0)) ∧
  (va_Z "java/lang/String" "COMPACT_STRINGS" "Z" (.int 1) A U U.heap ∧ va_Zq "jdk/internal/util/Preconditions" "SIOOBE_FORMATTER" "Ljava/util/function/BiFunction;" A U U.heap) ∧
  (vk_S 15 ((List.range 15).map (fun i => (zchars (i + 4)).length)) ((List.range 15).map (fun i => zchars (i + 4))) (fun i => pa (4 + i)) adV A U U.heap ∧ ∀ own i j, zplook zpool own i = some (.ldc j) → vk_R (znm own) i (ztext j) (pa j) U)
def zArg (pa : Nat → Nat) (ws : va_W) (as : List zV) (v : Array Value) : Prop := ∃ avs : List Value, v = avs.toArray ∧ zSR pa ws as avs
def zPc (D : va_G) (A : Nat → Prop) (pa : Nat → Nat) (X : zX) (adV : Nat → Nat) (ws : va_W) (σ : zMem) (as : List zV) : Array Value → State → Prop := fun v U =>
  zArg pa ws as v ∧ (∃ tys, va_K D zcl tys U ∧ zRel σ ws tys) ∧ va_P D zcl ws U.heap ∧ va_D A ws ∧ (∀ q, U.heap.size ≤ q → A q) ∧ zEnv A pa X adV U
def zVO (pa : Nat → Nat) (ws : va_W) : Option zV → Option Value → Prop
  | none, none => True
  | some v, some w => zVR pa ws v w
  | _, _ => False
def zQc (D : va_G) (A : Nat → Prop) (pa : Nat → Nat) (ws : va_W) (r : Option zV × zMem) : Array Value → State → Outcome → State → Prop := fun _ st o t =>
  ∃ (v : Option Value) (ws' : va_W) (tys' : List (ClassId × FieldType)), o = .returned v ∧ zVO pa ws' r.1 v ∧ va_K D zcl tys' t ∧ zRel r.2 ws' tys' ∧ va_P D zcl ws' t.heap ∧ va_D A ws' ∧ zext ws ws' ∧ va_F A st t
theorem zAOA.moved {u U : State} (hvm : u.vm.Alike U.vm) (h : va_AOA .long u) : va_AOA .long U := by
  have h0 : (Cond.arrayOver (.array .long)).holds #[] u none u [] = true := h
  obtain ⟨comp, c, k, h1, h2, h3, h4, h5⟩ : ∃ comp c k, u.vm.findClass (FieldType.array .long).toString = some comp ∧ (u.vm.classes.findIdx? fun x => match x.kind with | .array component _ => component == comp | _ => false) = some c ∧ u.vm.classes[c]? = some k ∧ k.kind = .array comp (.array .long) ∧ u.vm.findClass ("[" ++ (FieldType.array .long).toString) = some c := by
    simp only [Cond.holds, Cond.value, beq_iff_eq] at h0
    cases hc : u.vm.findClass (FieldType.array .long).toString with
    | none => simp [hc] at h0
    | some comp =>
      simp only [hc, Option.bind_some, Option.bind_eq_some_iff, Option.map_eq_some_iff] at h0
      obtain ⟨c, hi, k, hk, hb⟩ := h0
      obtain ⟨hlt, hp, -⟩ := Array.findIdx?_eq_some_iff_getElem.mp hi
      have hkk : u.vm.classes[c] = k := (Array.getElem?_eq_some_iff.mp hk).2
      rw [hkk] at hp
      cases hkind : k.kind with
      | array component ty =>
        rw [hkind] at hb hp
        simp at hb hp
        exact ⟨comp, c, k, rfl, hi, hk, by rw [hkind, hp, hb.1], hb.2⟩
      | _ => rw [hkind] at hb; simp at hb
  obtain ⟨k', hk', he⟩ := hvm.2.2 _ _ h3
  have hi : (U.vm.classes.findIdx? fun (x : Class) => match x.kind with | .array component _ => component == comp | _ => false) = some c := by
    have hb1 := va_idx_bare U.vm comp
    have hb2 := va_idx_bare u.vm comp
    have hbe : U.vm.bare = u.vm.bare := by first | exact hvm.bare_eq | exact hvm.bare_eq.symm
    rw [hbe] at hb1
    exact (hb1.symm.trans hb2).trans h2
  have hkind : k'.kind = .array comp (.array .long) := by rw [he]; exact h4
  have f1 : U.vm.findClass (FieldType.array .long).toString = some comp := by rw [hvm.findClass]; exact h1
  have f2 : U.vm.findClass ("[" ++ (FieldType.array .long).toString) = some c := by rw [hvm.findClass]; exact h5
  unfold va_AOA Cond.before Cond.holds
  simp only [Cond.value]
  rw [f1, Option.bind_some]
  refine (congrArg (fun o : Option Nat => (o.bind (fun c => (U.vm.classes[c]?).map fun (k : Class) => match k.kind with | .array _ ty => decide (ty = FieldType.array .long) && decide (U.vm.findClass ("[" ++ (FieldType.array .long).toString) = some c) | _ => false) == some true)) hi).trans ?_
  simp [hk', hkind, f2]
theorem zEnv.next {A : Nat → Prop} {pa : Nat → Nat} {X : zX} {adV : Nat → Nat} {s U : State} {H : Heap} {locs : List Loc} (h : zEnv A pa X adV s) (hS : va_S A s.heap H locs) (hU : U.heap = H) (hW : s.WarmedH U.vm) : zEnv A pa X adV U := by
  obtain ⟨h1, h2, h3, h4, ⟨L, xs, h5, h6, h7, h8, h9⟩, ⟨hc1, hc2⟩, h10, h11⟩ := h
  have hq : ∀ a : Nat, a < s.heap.size → ¬ A a → H[a]? = s.heap[a]? := hS.2.1
  subst hU
  refine ⟨fun w hw hn => ?_, fun C hC => (h2 C hC).moved hW.alike, zAOA.moved hW.alike h3, fun j j1 j2 => ⟨((h4 j j1 j2).1.kept hq).moved hW.alike, ((h4 j j1 j2).2.1.kept hq).moved hW.alike, (h4 j j1 j2).2.2⟩, ⟨L, xs, h5, h6, (h7.kept (hq _ h8 h9)).moved hW.alike, Nat.lt_of_lt_of_le h8 hS.1, h9⟩, ⟨(hc1.kept hq).moved hW.alike, (hc2.kept hq).moved hW.alike⟩, (h10.kept hq).moved hW.alike, fun own i j hj => (h11 own i j hj).warm hW⟩
  have h := h1 w hw hn
  cases w <;> first | (cases hn; done) | exact va_Nw.warmF hW h | exact va_Nw.warmM hW h
theorem zEnv.same {A : Nat → Prop} {pa : Nat → Nat} {X : zX} {adV : Nat → Nat} {s U : State} (h : zEnv A pa X adV s) (hH : U.heap = s.heap) (hV : U.vm = s.vm) : zEnv A pa X adV U := by
  obtain ⟨h1, h2, h3, h4, ⟨L, xs, h5, h6, h7, h8, h9⟩, ⟨hc1, hc2⟩, h10, h11⟩ := h
  have ha : s.vm.Alike U.vm := by rw [hV]; exact Vm.Alike.refl _
  rw [← hH] at h7 h8 h10
  refine ⟨fun w hw hn => ?_, fun C hC => (h2 C hC).moved ha, zAOA.moved ha h3, fun j j1 j2 => ⟨by have := (h4 j j1 j2).1.moved ha; rw [hH]; exact this, by have := (h4 j j1 j2).2.1.moved ha; rw [hH]; exact this, (h4 j j1 j2).2.2⟩, ⟨L, xs, h5, h6, h7.moved ha, h8, h9⟩, ⟨by have := hc1.moved ha; rw [hH]; exact this, by have := hc2.moved ha; rw [hH]; exact this⟩, h10.moved ha, fun own i j hj => (h11 own i j hj).same hV⟩
  have h := h1 w hw hn
  exact va_Nw.same (by cases w <;> first | (cases hn; done) | rfl) hV.symm h
theorem zPc_blind {D : va_G} {A : Nat → Prop} {pa : Nat → Nat} {X : zX} {adV : Nat → Nat} {ws : va_W} {σ : zMem} {as : List zV} : FrameBlind (zPc D A pa X adV ws σ as) := by
  intro a U g mk ⟨h1, ⟨tys, h2, h3⟩, h4, h5, h6, h7⟩
  exact ⟨h1, ⟨tys, va_K.moved (u := U) (U := U.calling g mk a) (Vm.Alike.refl U.vm) h2, h3⟩, h4, h5, h6, h7.same rfl rfl⟩
/-- the contract of a method, d calls deep at most -/
def zMet (l : Launch) (D : va_G) (A : Nat → Prop) (pa : Nat → Nat) (X : zX) (adV : Nat → Nat) (P : zT) (d : Nat) : Prop := ∀ (y : Nat) (q : zMt) (as : List zV) (σ : zMem) (r : Option zV × zMem) (ws : va_W), zM[y]? = some q → zcal X P d y as σ = some r →
  Met l q.2.1 (zws q) (zrm d (r.2.2.2.2.1 - σ.2.2.2.1) (r.2.2.2.2.2 - σ.2.2.2.2)) (zPc D A pa X adV ws σ as) (zQc D A pa ws r) (r.2.2.2.2.1 - σ.2.2.2.1) (r.2.2.2.2.2 - σ.2.2.2.2) A
section ZOPS6
variable {p : Program} {l : Launch} {e : Env} {R : Room} {s : State} {m : MethodId} {args : Array Value} {below : List Frame} {meth : Method} {c : Code} {cc : ByteArray} {Q : State → Prop} {D : va_G} {A : Nat → Prop} {pa : Nat → Nat} {ws0 : va_W} {σ0 rf : zMem}
variable {pc nx : Nat} {ls : zLoc} {st : List zV} {σ : zMem} {k : zK} {X : zX} {adV : Nat → Nat} {P : zT} {rv : Option zV}
theorem zcall_go {H : Heap} {locs : List Loc} {cells slots mc ms : Nat} {mls : Array Slot} {st0 rest : List Value} {Qa : State → Outcome → State → Prop} {free : Addr → Prop} (hr : va_Run p l e R s m args below meth c H locs cells slots mc ms (F0 m pc mls st0) rest Qa free)
    (kk : ∀ (v : Option Value) (st₀ t : State) (H1 : Heap) (L : List Loc), st₀.heap = H → t.heap = H1 → s.vm.Alike t.vm → Qa st₀ (.returned v) t → (∀ q ∈ L, free q.base) → W p l e R s m args below meth c H1 (locs ++ L) (cells + mc) (slots + ms) Q (F0 m (pc + 3) mls (v.toList ++ rest))) : W p l e R s m args below meth c H locs cells slots Q (F0 m pc mls st0) := by
  intro T hT X
  obtain ⟨v, st₀, t, T', L, h0, X', hL, e1, e2, hq, st⟩ := hr T hT X
  obtain ⟨t2, a1, b1⟩ := kk v st₀ t T'.heap L h0 e1.symm (by rw [← e2]; exact X'.warmed.alike) hq hL T' rfl X'
  exact ⟨t2, st t2 a1, b1⟩
/-- behind a call -/
theorem zcall_back {ws : va_W} {H : Heap} {locs : List Loc} {mls : Array Slot} {m2 : List Value} {st0 : List Value} {ra : Option zV × zMem} {r : List zV} (hz : zG p l e R s m args below meth c Q D A pa ws0 σ0 rf (pc + 3) ls (ra.1.toList ++ r) ra.2) (hle : σ.2.2.2.1 ≤ ra.2.2.2.2.1 ∧ σ.2.2.2.2 ≤ ra.2.2.2.2.2) (hn : σ0.2.2.2.1 ≤ σ.2.2.2.1 ∧ σ0.2.2.2.2 ≤ σ.2.2.2.2) (hS : va_S A s.heap H locs) (hxx : zext ws0 ws) (hl : zLR pa ws ls mls) (hst : zSR pa ws r m2) {as : Array Value}
    (hr : va_Run p l e R s m args below meth c H locs (σ.2.2.2.1 - σ0.2.2.2.1) (σ.2.2.2.2 - σ0.2.2.2.2) (ra.2.2.2.2.1 - σ.2.2.2.1) (ra.2.2.2.2.2 - σ.2.2.2.2) (F0 m pc mls st0) m2 (zQc D A pa ws ra as) A) : W p l e R s m args below meth c H locs (σ.2.2.2.1 - σ0.2.2.2.1) (σ.2.2.2.2 - σ0.2.2.2.2) Q (F0 m pc mls st0) := by
  refine zcall_go hr (fun v st₀ t H1 L h0 ht hvm hq hloc => ?_)
  obtain ⟨v', ws', tys', hv, hvo, hK1, hR1, hP1, hD1, hx1, hF⟩ := hq
  cases hv
  subst ht
  rw [show σ.2.2.2.1 - σ0.2.2.2.1 + (ra.2.2.2.2.1 - σ.2.2.2.1) = ra.2.2.2.2.1 - σ0.2.2.2.1 by omega, show σ.2.2.2.2 - σ0.2.2.2.2 + (ra.2.2.2.2.2 - σ.2.2.2.2) = ra.2.2.2.2.2 - σ0.2.2.2.2 by omega]
  refine hz.2 ws' tys' t.heap (locs ++ L) mls _ ⟨by omega, by omega⟩ (va_K.moved hvm.symm hK1) hR1 hP1 hD1 ⟨Nat.le_trans hS.1 (by rw [← h0]; exact hF.1), fun q h1 h2 => ?_, fun q hq => ?_⟩ (hxx.trans hx1) (hl.mono hx1) ?_
  · rw [hF.2 q (by rw [h0]; exact Nat.lt_of_lt_of_le h1 hS.1) h2, h0]
    exact hS.2.1 q h1 h2
  · rcases List.mem_append.mp hq with h | h
    · exact hS.2.2 q h
    · exact hloc q h
  · cases hra : ra.1 with
    | none =>
      rw [hra] at hvo
      cases v with
      | none => exact hst.mono hx1
      | some w => exact hvo.elim
    | some z =>
      rw [hra] at hvo
      cases v with
      | none => exact hvo.elim
      | some w => exact ⟨w, m2, rfl, hvo, hst.mono hx1⟩
end ZOPS6
end
section
/-! THE MACHINE DOES WHAT THE SMALL MACHINE DOES: calls, then every step, then every method. -/
theorem zpar_of {d : String} {k n : Nat} (h : (parseMethodDescriptor d).map (fun x => x.parameters.length + k) = some n) : (parseMethodDescriptor d).map (fun x => x.parameters.length) = some (n - k) := by
  cases hp : parseMethodDescriptor d with
  | none => rw [hp] at h; cases h
  | some x =>
    rw [hp] at h
    have h1 : x.parameters.length + k = n := Option.some.inj h
    show some x.parameters.length = some (n - k)
    rw [← h1, Nat.add_sub_cancel]
/-- what the table says of a method -/
def zMF (q : zMt) : Prop := q.1 < 11 ∧ znm q.1 = q.2.1.cls ∧ Cond.code q.2.1 q.2.2.1 q.2.2.2.1 q.2.2.2.2.1 ∈ lw_tbl ∧ Cond.initialized q.2.1.cls ∈ lw_tbl ∧ q.2.2.2.1 ≤ 13 ∧ plainName q.2.1.cls = true ∧
  (q.2.2.2.2.2.2.1 = 0 → Cond.static q.2.1 ∈ lw_tbl ∧ (parseMethodDescriptor q.2.1.desc).map (fun d => d.parameters.length) = some q.2.2.2.2.2.1) ∧
  (q.2.2.2.2.2.2.1 = 1 → Cond.instanceMethod q.2.1 ∈ lw_tbl ∧ Cond.selects q.2.1.cls q.2.1 q.2.1 ∈ lw_tbl ∧ (parseMethodDescriptor q.2.1.desc).map (fun d => d.parameters.length) = some (q.2.2.2.2.2.1 - 1)) ∧
  (q.2.2.2.2.2.2.1 = 2 → q.2.1.name = "<init>" ∧ q.2.2.2.2.1 = none ∧ Cond.instanceMethod q.2.1 ∈ lw_tbl ∧ (parseMethodDescriptor q.2.1.desc).map (fun d => d.parameters.length) = some (q.2.2.2.2.2.1 - 1))
theorem zMF_of {q : zMt} (h : zmchk q = true) : zMF q := by
  unfold zmchk at h
  simp only [Bool.and_eq_true, decide_eq_true_eq] at h
  obtain ⟨⟨⟨⟨⟨⟨h1, h2⟩, h3⟩, h4⟩, h5⟩, h6⟩, h7⟩ := h
  refine ⟨h1, h2, List.mem_of_getElem? h3, List.mem_of_getElem? h4, h5, h7, fun hk => ?_, fun hk => ?_, fun hk => ?_⟩
  · rw [hk] at h6
    simp only [Bool.and_eq_true, decide_eq_true_eq] at h6
    exact ⟨List.mem_of_getElem? h6.1, h6.2⟩
  · rw [hk] at h6
    simp only [Bool.and_eq_true, decide_eq_true_eq] at h6
    exact ⟨List.mem_of_getElem? h6.1.1, List.mem_of_getElem? h6.1.2, zpar_of h6.2⟩
  · rw [hk] at h6
    simp only [Bool.and_eq_true, decide_eq_true_eq] at h6
    exact ⟨h6.1.1.1, h6.1.1.2, List.mem_of_getElem? h6.1.2, zpar_of h6.2⟩
theorem zrm_ok {d mc ms ml fr lo : Nat} (hfr : d + 6 ≤ fr) (hlo : 40 * (d + 1) + 250 ≤ lo) (hm : ml ≤ 13) : (zrm d mc ms).frames + 1 ≤ fr ∧ 8 + (ml + 11) + (zrm d mc ms).locals ≤ lo := by
  have e1 : (zrm d mc ms).frames = d + 5 := rfl
  have e2 : (zrm d mc ms).locals = 40 * d + 250 := rfl
  rw [e1, e2]
  omega
theorem znm_ne : ∀ c, c < 11 → znm c ≠ "java/lang/invoke/MethodHandle" ∧ znm c ≠ "java/lang/invoke/VarHandle" := by decide +kernel
theorem zgood_in {Ts : List Cond} (hBT : ∀ w ∈ zBig, w ∈ Ts) {q : zMt} (hq : zMF q) (lw : List Cond) (h : ∀ w ∈ lw, w ∈ lw_tbl ∧ goodWord w = true) : GoodIn Ts (lw ++ zws q) := by
  intro w hw
  rcases List.mem_append.mp hw with h1 | h1
  · exact ⟨hBT _ (zBig_in (h w h1).1 (h w h1).2), good_of_word (h w h1).2⟩
  · rcases List.mem_cons.mp h1 with rfl | h2
    · exact ⟨hBT _ (zBig_in hq.2.2.1 rfl), good_of_word rfl⟩
    · exact ⟨hBT _ h2, good_of_word (List.mem_filter.mp h2).2⟩
section ZOPS7
variable {p : Program} {l : Launch} {e : Env} {R : Room} {s : State} {m : MethodId} {args : Array Value} {below : List Frame} {meth : Method} {c : Code} {cc : ByteArray} {Q : State → Prop} {D : va_G} {A : Nat → Prop} {pa : Nat → Nat} {ws0 : va_W} {σ0 rf : zMem}
variable {pc nx : Nat} {ls : zLoc} {st : List zV} {σ : zMem} {k : zK} {X : zX} {adV : Nat → Nat} {P : zT} {rv : Option zV}
theorem zs_invokevirtual (hx : p.tables.exec = Jvm.exec) (hb : c.code = cc) {own i n d : Nat} {Ts : List Cond} {q : zMt} (hown : s.vm.findClass (znm own) = some m.cls) (hml : c.maxLocals = ls.length) (hts : ∀ w ∈ Ts, w.before args s = true) (hBT : ∀ w ∈ zBig, w ∈ Ts) (henv : zEnv A pa X adV s) (hA : ∀ q, s.heap.size ≤ q → A q) (hM : zMet l D A pa X adV P d) (hq : zM[n / 1024]? = some q) (hF : zMF q) (hkind : q.2.2.2.2.2.2.1 = 1) (hqc : q.1 = n / 16 % 64) (hqn : q.2.2.2.2.2.1 = n % 16) (hlk : Cond.methodLink (znm own) i q.2.1 ∈ lw_tbl ∨ ∃ host, Cond.methodLinkNest (znm own) i q.2.1 host ∈ lw_tbl) (hfr : d + 6 ≤ R.frames) (hlo : 40 * (d + 1) + 250 ≤ R.locals) (hrc : rf.2.2.2.1 - σ0.2.2.2.1 ≤ R.cells) (hrs : rf.2.2.2.2 - σ0.2.2.2.2 ≤ R.slots) (hd : decode cc pc = .ok (.invokevirtual i, 3)) (hk : ∀ pc ls st σ, k pc ls st σ = some (rv, rf) → zG p l e R s m args below meth c Q D A pa ws0 σ0 rf pc ls st σ) (h : zstep X (zcal X P d) (.invokevirtual n) ls st σ (pc + 3) k = some (rv, rf)) : zG p l e R s m args below meth c Q D A pa ws0 σ0 rf pc ls st σ := by
  have hF0 := hF
  obtain ⟨f1, f2, f3, f4, f5, f6, -, f7, -⟩ := hF
  obtain ⟨g1, g2, g3⟩ := f7 hkind
  simp only [zstep] at h
  split at h
  · next a as r hp =>
    split at h
    · next hsum =>
      split at h
      · next hka =>
        have hs8 : (r.map zcat).sum ≤ 8 := Nat.ble_eq.mp hsum
        obtain ⟨ra, h1, h2⟩ := Option.bind_eq_some_iff.mp h
        obtain ⟨xs, rfl, hlen, has⟩ := zpop_spec _ _ _ _ _ hp
        rw [List.append_nil] at has
        have hz := hk _ _ _ _ h2
        have hle := zcal_le _ _ _ _ _ h1
        have hz1 := hz.1
        refine ⟨⟨Nat.le_trans hle.1 hz.1.1, Nat.le_trans hle.2 hz.1.2⟩, fun ws tys H locs mls mst hn hK hR hP hD hS hxx hl hst => ?_⟩
        obtain ⟨m1, m2, rfl, hs1, hs2⟩ := zSR.app hst
        have hrev := hs1.rev
        rw [← has] at hrev
        obtain ⟨w, avs, hm1, hw, havs⟩ := hrev
        obtain ⟨b, q0, e, rfl, hb1, rfl, hcr⟩ := hR.at (show zRR ws a w from hw) (by rw [hka]; exact Nat.one_ne_zero)
        obtain ⟨fs, rfl, -, -⟩ := zCR_obj hka hcr
        have hm1' : m1 = avs.reverse ++ [.ref q0] := by rw [← List.reverse_reverse m1, hm1, List.reverse_cons]
        have hst1 : m1 ++ m2 = avs.reverse ++ .ref q0 :: m2 := by rw [hm1', List.append_assoc]; rfl
        rw [hst1]
        have hcls : q.2.1.cls = znm (n / 16 % 64) := by rw [← f2, hqc]
        have hlenA : avs.length = q.2.2.2.2.2.1 - 1 := by
          have e1 := havs.len
          have e2 : xs.length = as.length + 1 := by rw [← List.length_reverse, ← has]; rfl
          omega
        have hMq := hM (n / 1024) q _ σ ra ws hq h1
        have hne := znm_ne q.1 f1
        rw [f2] at hne
        have hpre : PreV s H q.2.1.cls q0 (zPc D A pa X adV ws σ (.inr (.inr (.inl (b + 1))) :: as)) avs := by
          refine ⟨zPc_blind, ?_, fun U hU hW => ⟨⟨_, rfl, _, _, rfl, ⟨_, hb1, rfl⟩, havs⟩, ⟨tys, va_K.moved hW.alike hK, hR⟩, by rw [hU]; exact hP, hD, fun q hq => hA q (Nat.le_trans hS.1 (by rw [← hU]; exact hq)), henv.next hS hU hW⟩⟩
          have hrc2 := va_recv hK hP (zclass_ok _ (by rw [← hqc]; exact f1)).1 hb1
          rw [hcls]
          exact hrc2
        have hc1 : ra.2.2.2.2.1 ≤ rf.2.2.2.1 := hz1.1
        have hc2 : ra.2.2.2.2.2 ≤ rf.2.2.2.2 := hz1.2
        have hsz := hs2.sum
        rcases hlk with hlk | ⟨host, hlk⟩
        · exact zcall_back hz hle hn hS hxx hl hs2 (va_runV (nL := ls.length) ⟨hx, hb, hml, hown, hts⟩ hMq
            (cwV (avs.length) hts (zgood_in hBT hF0 [.methodLink (znm own) i q.2.1, .instanceMethod q.2.1, .selects q.2.1.cls q.2.1 q.2.1, .initialized q.2.1.cls] (fun w hw => by
              rcases List.mem_cons.mp hw with rfl | hw
              · exact ⟨hlk, rfl⟩
              rcases List.mem_cons.mp hw with rfl | hw
              · exact ⟨g1, rfl⟩
              rcases List.mem_cons.mp hw with rfl | hw
              · exact ⟨g2, rfl⟩
              rcases List.mem_cons.mp hw with rfl | hw
              · exact ⟨f4, rfl⟩
              · cases hw)) rfl rfl rfl ⟨rfl, hne.1, hne.2, by rw [g3, hlenA]⟩ (zrm_ok hfr hlo f5))
            hpre rfl rfl hl.1 rfl (lv_room (by omega)) hd ⟨by omega, by omega⟩)
        · exact zcall_back hz hle hn hS hxx hl hs2 (va_runVN (nL := ls.length) (host := host) ⟨hx, hb, hml, hown, hts⟩ hMq
            ⟨va_cnB (avs.length) hts (zgood_in hBT hF0 [] (fun w hw => by cases hw)) rfl rfl rfl (henv.1 _ hlk rfl) (hts _ (hBT _ (zBig_in f4 rfl))) ⟨hne.1, hne.2, by rw [g3, hlenA]⟩ (zrm_ok hfr hlo f5), hts _ (hBT _ (zBig_in g1 rfl)), hts _ (hBT _ (zBig_in g2 rfl))⟩
            hpre rfl rfl hl.1 rfl (lv_room (by omega)) hd ⟨by omega, by omega⟩)
      · cases h
    · cases h
  · cases h
theorem zs_invokespecial (hx : p.tables.exec = Jvm.exec) (hb : c.code = cc) {own i n d : Nat} {Ts : List Cond} {q : zMt} (hown : s.vm.findClass (znm own) = some m.cls) (hml : c.maxLocals = ls.length) (hts : ∀ w ∈ Ts, w.before args s = true) (hBT : ∀ w ∈ zBig, w ∈ Ts) (henv : zEnv A pa X adV s) (hA : ∀ q, s.heap.size ≤ q → A q) (hM : zMet l D A pa X adV P d) (hq : zM[n / 1024]? = some q) (hF : zMF q) (hkind : q.2.2.2.2.2.2.1 = 2) (hqc : q.1 = n / 16 % 64) (hqn : q.2.2.2.2.2.1 = n % 16) (hlk : Cond.methodLink (znm own) i q.2.1 ∈ lw_tbl ∨ ∃ host, Cond.methodLinkNest (znm own) i q.2.1 host ∈ lw_tbl) (hfr : d + 6 ≤ R.frames) (hlo : 40 * (d + 1) + 250 ≤ R.locals) (hrc : rf.2.2.2.1 - σ0.2.2.2.1 ≤ R.cells) (hrs : rf.2.2.2.2 - σ0.2.2.2.2 ≤ R.slots) (hd : decode cc pc = .ok (.invokespecial i, 3)) (hk : ∀ pc ls st σ, k pc ls st σ = some (rv, rf) → zG p l e R s m args below meth c Q D A pa ws0 σ0 rf pc ls st σ) (h : zstep X (zcal X P d) (.invokespecial n) ls st σ (pc + 3) k = some (rv, rf)) : zG p l e R s m args below meth c Q D A pa ws0 σ0 rf pc ls st σ := by
  have hF0 := hF
  obtain ⟨f1, f2, f3, f4, f5, f6, -, -, f7⟩ := hF
  obtain ⟨g0, gr, g1, g3⟩ := f7 hkind
  simp only [zstep] at h
  split at h
  · next a as r hp =>
    split at h
    · next hsum =>
      split at h
      · next hka =>
        have hs8 : (r.map zcat).sum ≤ 8 := Nat.ble_eq.mp hsum
        obtain ⟨ra, h1, h2⟩ := Option.bind_eq_some_iff.mp h
        obtain ⟨xs, rfl, hlen, has⟩ := zpop_spec _ _ _ _ _ hp
        rw [List.append_nil] at has
        have hz := hk _ _ _ _ h2
        have hle := zcal_le _ _ _ _ _ h1
        have hz1 := hz.1
        refine ⟨⟨Nat.le_trans hle.1 hz.1.1, Nat.le_trans hle.2 hz.1.2⟩, fun ws tys H locs mls mst hn hK hR hP hD hS hxx hl hst => ?_⟩
        obtain ⟨m1, m2, rfl, hs1, hs2⟩ := zSR.app hst
        have hrev := hs1.rev
        rw [← has] at hrev
        obtain ⟨w, avs, hm1, hw, havs⟩ := hrev
        obtain ⟨b, q0, e, rfl, hb1, rfl, hcr⟩ := hR.at (show zRR ws a w from hw) (by rw [hka]; exact Nat.one_ne_zero)
        have hm1' : m1 = avs.reverse ++ [.ref q0] := by rw [← List.reverse_reverse m1, hm1, List.reverse_cons]
        have hst1 : m1 ++ m2 = avs.reverse ++ .ref q0 :: m2 := by rw [hm1', List.append_assoc]; rfl
        rw [hst1]
        have hlenA : avs.length = q.2.2.2.2.2.1 - 1 := by
          have e1 := havs.len
          have e2 : xs.length = as.length + 1 := by rw [← List.length_reverse, ← has]; rfl
          omega
        have hMq := hM (n / 1024) q _ σ ra ws hq h1
        have hne := znm_ne q.1 f1
        rw [f2] at hne
        have hwsq : zws q = Cond.code q.2.1 q.2.2.1 q.2.2.2.1 none :: zBig := by unfold zws; rw [gr]
        have hpre : PreS s H (zPc D A pa X adV ws σ (.inr (.inr (.inl (b + 1))) :: as)) (.ref q0 :: avs) :=
          ⟨zPc_blind, fun U hU hW => ⟨⟨_, rfl, _, _, rfl, ⟨_, hb1, rfl⟩, havs⟩, ⟨tys, va_K.moved hW.alike hK, hR⟩, by rw [hU]; exact hP, hD, fun q hq => hA q (Nat.le_trans hS.1 (by rw [← hU]; exact hq)), henv.next hS hU hW⟩⟩
        have hc1 : ra.2.2.2.2.1 ≤ rf.2.2.2.1 := hz1.1
        have hc2 : ra.2.2.2.2.2 ≤ rf.2.2.2.2 := hz1.2
        have hsz := hs2.sum
        rcases hlk with hlk | ⟨host, hlk⟩
        · exact zcall_back hz hle hn hS hxx hl hs2 (va_runI (nL := ls.length) ⟨hx, hb, hml, hown, hts⟩ hMq
            (cwI (avs.length) hts (zgood_in hBT hF0 [] (fun w hw => by cases hw)) hwsq rfl rfl (hts _ (hBT _ (zBig_in f4 rfl))) (hts _ (hBT _ (zBig_in hlk rfl))) (hts _ (hBT _ (zBig_in g1 rfl))) g0 ⟨hne.1, hne.2, by rw [g3, hlenA]⟩ (zrm_ok hfr hlo f5))
            hpre rfl rfl hl.1 rfl (lv_room (by omega)) hd ⟨by omega, by omega⟩)
        · exact zcall_back hz hle hn hS hxx hl hs2 (va_runIN (nL := ls.length) (host := host) ⟨hx, hb, hml, hown, hts⟩ hMq
            ⟨va_cnB (avs.length) hts (zgood_in hBT hF0 [] (fun w hw => by cases hw)) hwsq rfl rfl (henv.1 _ hlk rfl) (hts _ (hBT _ (zBig_in f4 rfl))) ⟨hne.1, hne.2, by rw [g3, hlenA]⟩ (zrm_ok hfr hlo f5), g0, hts _ (hBT _ (zBig_in g1 rfl))⟩
            hpre rfl rfl hl.1 rfl (lv_room (by omega)) hd ⟨by omega, by omega⟩)
      · cases h
    · cases h
  · cases h
theorem zs_invokestatic (hx : p.tables.exec = Jvm.exec) (hb : c.code = cc) {own i n d : Nat} {Ts : List Cond} {q : zMt} (hown : s.vm.findClass (znm own) = some m.cls) (hml : c.maxLocals = ls.length) (hts : ∀ w ∈ Ts, w.before args s = true) (hBT : ∀ w ∈ zBig, w ∈ Ts) (henv : zEnv A pa X adV s) (hA : ∀ q, s.heap.size ≤ q → A q) (hM : zMet l D A pa X adV P d) (hq : zM[n / 1024]? = some q) (hF : zMF q) (hkind : q.2.2.2.2.2.2.1 = 0) (hqn : q.2.2.2.2.2.1 = n % 16) (hlk : Cond.methodLink (znm own) i q.2.1 ∈ lw_tbl ∨ ∃ host, Cond.methodLinkNest (znm own) i q.2.1 host ∈ lw_tbl) (hfr : d + 6 ≤ R.frames) (hlo : 40 * (d + 1) + 250 ≤ R.locals) (hrc : rf.2.2.2.1 - σ0.2.2.2.1 ≤ R.cells) (hrs : rf.2.2.2.2 - σ0.2.2.2.2 ≤ R.slots) (hd : decode cc pc = .ok (.invokestatic i, 3)) (hk : ∀ pc ls st σ, k pc ls st σ = some (rv, rf) → zG p l e R s m args below meth c Q D A pa ws0 σ0 rf pc ls st σ) (h : zstep X (zcal X P d) (.invokestatic n) ls st σ (pc + 3) k = some (rv, rf)) : zG p l e R s m args below meth c Q D A pa ws0 σ0 rf pc ls st σ := by
  have hF0 := hF
  obtain ⟨f1, f2, f3, f4, f5, f6, f7, -, -⟩ := hF
  obtain ⟨g1, g3⟩ := f7 hkind
  simp only [zstep] at h
  split at h
  · next as r hp =>
    split at h
    · next hsum =>
      have hs8 : (r.map zcat).sum ≤ 8 := Nat.ble_eq.mp hsum
      obtain ⟨ra, h1, h2⟩ := Option.bind_eq_some_iff.mp h
      obtain ⟨xs, rfl, hlen, has⟩ := zpop_spec _ _ _ _ _ hp
      rw [List.append_nil] at has
      have hz := hk _ _ _ _ h2
      have hle := zcal_le _ _ _ _ _ h1
      have hz1 := hz.1
      refine ⟨⟨Nat.le_trans hle.1 hz.1.1, Nat.le_trans hle.2 hz.1.2⟩, fun ws tys H locs mls mst hn hK hR hP hD hS hxx hl hst => ?_⟩
      obtain ⟨m1, m2, rfl, hs1, hs2⟩ := zSR.app hst
      have hrev := hs1.rev
      rw [← has] at hrev
      have hst1 : m1 ++ m2 = m1.reverse.reverse ++ m2 := by rw [List.reverse_reverse]
      rw [hst1]
      have hlenA : m1.reverse.length = q.2.2.2.2.2.1 := by
        have e1 := hrev.len
        have e2 : xs.length = as.length := by rw [← List.length_reverse, ← has]
        omega
      have hMq := hM (n / 1024) q _ σ ra ws hq h1
      have hne := znm_ne q.1 f1
      rw [f2] at hne
      have hpre : PreS s H (zPc D A pa X adV ws σ as) m1.reverse :=
        ⟨zPc_blind, fun U hU hW => ⟨⟨_, rfl, hrev⟩, ⟨tys, va_K.moved hW.alike hK, hR⟩, by rw [hU]; exact hP, hD, fun q hq => hA q (Nat.le_trans hS.1 (by rw [← hU]; exact hq)), henv.next hS hU hW⟩⟩
      have hc1 : ra.2.2.2.2.1 ≤ rf.2.2.2.1 := hz1.1
      have hc2 : ra.2.2.2.2.2 ≤ rf.2.2.2.2 := hz1.2
      have hsz := hs2.sum
      rcases hlk with hlk | ⟨host, hlk⟩
      · exact zcall_back hz hle hn hS hxx hl hs2 (va_runS (nL := ls.length) ⟨hx, hb, hml, hown, hts⟩ hMq
          (va_cwS (m1.reverse.length) hts (zgood_in hBT hF0 [.methodLink (znm own) i q.2.1, .static q.2.1, .initialized q.2.1.cls] (fun w hw => by
            rcases List.mem_cons.mp hw with rfl | hw
            · exact ⟨hlk, rfl⟩
            rcases List.mem_cons.mp hw with rfl | hw
            · exact ⟨g1, rfl⟩
            rcases List.mem_cons.mp hw with rfl | hw
            · exact ⟨f4, rfl⟩
            · cases hw)) rfl rfl rfl ⟨hne.1, hne.2, by rw [g3, hlenA]⟩ (zrm_ok hfr hlo f5))
          hpre rfl rfl hl.1 rfl (lv_room (by omega)) hd ⟨by omega, by omega⟩)
      · exact zcall_back hz hle hn hS hxx hl hs2 (va_runSN (nL := ls.length) (host := host) ⟨hx, hb, hml, hown, hts⟩ hMq
          ⟨va_cnB (m1.reverse.length) hts (zgood_in hBT hF0 [] (fun w hw => by cases hw)) rfl rfl rfl (henv.1 _ hlk rfl) (hts _ (hBT _ (zBig_in f4 rfl))) ⟨hne.1, hne.2, by rw [g3, hlenA]⟩ (zrm_ok hfr hlo f5), hts _ (hBT _ (zBig_in g1 rfl)), trivial⟩
          hpre rfl rfl hl.1 rfl (lv_room (by omega)) hd ⟨by omega, by omega⟩)
    · cases h
  · cases h
end ZOPS7
end
section
/-! EVERY STEP, EVERY METHOD. -/
theorem zstep_monoL {X : zX} {C : zC} {i : Instr} {ls : zLoc} {st : List zV} {σ : zMem} {nx : Nat} {k k' : zK} {r : Option zV × zMem} (hk : ∀ pc (ls' : zLoc) st σ r, ls'.length = ls.length → k pc ls' st σ = some r → k' pc ls' st σ = some r) (h : zstep X C i ls st σ nx k = some r) : zstep X C i ls st σ nx k' = some r := by
  have e1 : ∀ i v, ((zkill ls i).set i v).length = ls.length := fun i v => by rw [List.length_set, zkill_len]
  have e2 : ∀ i v, (((zkill ls i).set i v).set (i + 1) none).length = ls.length := fun i v => by rw [List.length_set, List.length_set, zkill_len]
  cases i
  all_goals simp only [zstep] at h ⊢
  all_goals (repeat' split at h)
  all_goals first
    | (cases h; done)
    | exact hk _ _ _ _ _ rfl h
    | exact h
    | exact hk _ _ _ _ _ (e1 _ _) h
    | exact hk _ _ _ _ _ (e2 _ _) h
    | (simp only [*, if_true, if_false, not_true_eq_false, not_false_eq_true, and_self, or_true, true_or] at h ⊢; exact hk _ _ _ _ _ rfl h)
    | (simp only [*, if_true, if_false, not_true_eq_false, not_false_eq_true, and_self, or_true, true_or] at h ⊢; exact hk _ _ _ _ _ (e1 _ _) h)
    | (simp only [*, if_true, if_false, not_true_eq_false, not_false_eq_true, and_self, or_true, true_or] at h ⊢; exact hk _ _ _ _ _ (e2 _ _) h)
    | (simp only [*, if_true, if_false, not_true_eq_false, not_false_eq_true, and_self, or_true, true_or] at h ⊢; exact h)
    | (obtain ⟨q, h1, h2⟩ := Option.bind_eq_some_iff.mp h
       simp only [*, if_true, if_false]
       exact Option.bind_eq_some_iff.mpr ⟨q, h1, hk _ _ _ _ _ rfl h2⟩)
    | (simp only [*]
       exact Option.bind_eq_some_iff.mpr ((Option.bind_eq_some_iff.mp h).imp fun q hq => ⟨hq.1, hk _ _ _ _ _ rfl hq.2⟩))
    | (rw [if_pos (by assumption)]; exact h)
    | (simp_all only [Option.bind_eq_some_iff]
       exact h.imp fun q hq => ⟨hq.1, hk _ _ _ _ _ rfl hq.2⟩)
/-- the two members of a text, as contracts -/
def zyLen : MethodName := ⟨"java/lang/String", "length", "()I"⟩
def zyChr : MethodName := ⟨"java/lang/String", "charAt", "(I)C"⟩
def zSPc (A : Nat → Prop) (pa : Nat → Nat) (X : zX) (adV : Nat → Nat) (j : Nat) (as : List Value) : Array Value → State → Prop := fun v U => v = (Value.ref (pa j) :: as).toArray ∧ (∀ q, U.heap.size ≤ q → A q) ∧ zEnv A pa X adV U
def zSQc (x : Int) : Array Value → State → Outcome → State → Prop := fun _ st o t => ∃ y : Int32, y.toInt = x ∧ o = .returned (some (.int y)) ∧ t.heap = st.heap
def zsrm : Room := { frames := 4, cells := 0, slots := 0, locals := 150 }
def zStrOK (l : Launch) (A : Nat → Prop) (pa : Nat → Nat) (X : zX) (adV : Nat → Nat) : Prop := ∀ j, 4 ≤ j → 0 < (X j).1 → j < 19 ∧
  (∃ b ml, Cond.code zyLen b ml (some .int) ∈ lw_tbl ∧ ml ≤ 13 ∧ Met l zyLen (Cond.code zyLen b ml (some .int) :: zBig) zsrm (zSPc A pa X adV j []) (zSQc (X j).1) 0 0 (fun _ => False)) ∧
  (∀ i : Int32, 0 ≤ i.toInt → i.toInt < (X j).1 → ∃ b ml, Cond.code zyChr b ml (some .char) ∈ lw_tbl ∧ ml ≤ 13 ∧ Met l zyChr (Cond.code zyChr b ml (some .char) :: zBig) zsrm (zSPc A pa X adV j [.int i]) (zSQc ((X j).2 i.toInt.toNat)) 0 0 (fun _ => False))
theorem zSPc_blind {A : Nat → Prop} {pa : Nat → Nat} {X : zX} {adV : Nat → Nat} {j : Nat} {as : List Value} : FrameBlind (zSPc A pa X adV j as) := by
  intro a U g mk ⟨h1, h2, h3⟩
  exact ⟨h1, h2, h3.same rfl rfl⟩
theorem zstr_words : Cond.instanceMethod zyLen ∈ lw_tbl ∧ Cond.selects zyLen.cls zyLen zyLen ∈ lw_tbl ∧ Cond.instanceMethod zyChr ∈ lw_tbl ∧ Cond.selects zyChr.cls zyChr zyChr ∈ lw_tbl ∧ Cond.initialized "java/lang/String" ∈ lw_tbl := by decide +kernel
theorem zpar_chr : (parseMethodDescriptor zyChr.desc).map (fun d => d.parameters.length) = some 1 := by decide +kernel
section ZOPS8
variable {p : Program} {l : Launch} {e : Env} {R : Room} {s : State} {m : MethodId} {args : Array Value} {below : List Frame} {meth : Method} {c : Code} {cc : ByteArray} {Q : State → Prop} {D : va_G} {A : Nat → Prop} {pa : Nat → Nat} {ws0 : va_W} {σ0 rf : zMem}
variable {pc nx : Nat} {ls : zLoc} {st : List zV} {σ : zMem} {k : zK} {X : zX} {adV : Nat → Nat} {P : zT} {rv : Option zV} {C : zC}
/-- a member of a text is called -/
theorem zs_str (hx : p.tables.exec = Jvm.exec) (hb : c.code = cc) {own i j : Nat} {Ts : List Cond} {y : MethodName} {b : ByteArray} {ml nL : Nat} {ret : Option FieldType} {as : List Value} {x : Int} {H : Heap} {locs : List Loc} {cells slots : Nat} {mls : Array Slot} {rest : List Value} (hown : s.vm.findClass (znm own) = some m.cls) (hml : c.maxLocals = nL) (hsz : mls.size = nL) (hts : ∀ w ∈ Ts, w.before args s = true) (hBT : ∀ w ∈ zBig, w ∈ Ts) (henv : zEnv A pa X adV s) (hA : ∀ q, s.heap.size ≤ q → A q) (hj : 4 ≤ j) (hj2 : j < 19) (hy : y.cls = "java/lang/String") (hin : Cond.instanceMethod y ∈ lw_tbl) (hse : Cond.selects y.cls y y ∈ lw_tbl) (hco : Cond.code y b ml ret ∈ lw_tbl) (hml13 : ml ≤ 13) (hpar : (parseMethodDescriptor y.desc).map (fun d => d.parameters.length) = some as.length) (hM : Met l y (Cond.code y b ml ret :: zBig) zsrm (zSPc A pa X adV j as) (zSQc x) 0 0 (fun _ => False)) (hlk : Cond.methodLink (znm own) i y ∈ lw_tbl) (hfr : 5 ≤ R.frames) (hlo : 190 ≤ R.locals) (hc : cells ≤ R.cells) (hs : slots ≤ R.slots) (hS : va_S A s.heap H locs) (hsum : (rest.map fun v => v.category).sum ≤ 8) (hd : decode cc pc = .ok (.invokevirtual i, 3))
    (kk : ∀ z : Int32, z.toInt = x → W p l e R s m args below meth c H locs cells slots Q (F0 m (pc + 3) mls (.int z :: rest))) : W p l e R s m args below meth c H locs cells slots Q (F0 m pc mls (as.reverse ++ .ref (pa j) :: rest)) := by
  have hgood : GoodIn Ts (wsV (znm own) i y.cls y (Cond.code y b ml ret :: zBig)) := by
    intro w hw
    rcases List.mem_append.mp (show w ∈ ([.methodLink (znm own) i y, .instanceMethod y, .selects y.cls y y, .initialized y.cls] : List Cond) ++ (Cond.code y b ml ret :: zBig) from hw) with h1 | h1
    · rcases List.mem_cons.mp h1 with rfl | h1
      · exact ⟨hBT _ (zBig_in hlk rfl), good_of_word rfl⟩
      rcases List.mem_cons.mp h1 with rfl | h1
      · exact ⟨hBT _ (zBig_in hin rfl), good_of_word rfl⟩
      rcases List.mem_cons.mp h1 with rfl | h1
      · exact ⟨hBT _ (zBig_in hse rfl), good_of_word rfl⟩
      rcases List.mem_cons.mp h1 with rfl | h1
      · rw [hy]; exact ⟨hBT _ (zBig_in zstr_words.2.2.2.2 rfl), good_of_word rfl⟩
      · cases h1
    · rcases List.mem_cons.mp h1 with rfl | h2
      · exact ⟨hBT _ (zBig_in hco rfl), good_of_word rfl⟩
      · exact ⟨hBT _ h2, good_of_word (List.mem_filter.mp h2).2⟩
  have hvk := henv.2.2.2.2.2.2.1
  have hrcv := vk_recv hvk (i := j - 4) (by omega) hS
  simp only [show 4 + (j - 4) = j by omega] at hrcv
  refine zcall_go (va_runV (nL := nL) (n := as.length) (C := y.cls) (rest := rest) ⟨hx, hb, hml, hown, hts⟩ hM (cwV as.length hts hgood rfl rfl rfl ⟨rfl, by rw [hy]; decide, by rw [hy]; decide, hpar⟩ ⟨hfr, by show 8 + (ml + 11) + 150 ≤ _; omega⟩) ⟨zSPc_blind, by rw [hy]; exact hrcv, fun U hU hW => ⟨rfl, fun q hq => hA q (Nat.le_trans hS.1 (by rw [← hU]; exact hq)), henv.next hS hU hW⟩⟩ rfl rfl hsz rfl (lv_room hsum) hd ⟨hc, hs⟩) (fun v st₀ t H1 L h0 ht hvm hq hloc => ?_)
  obtain ⟨z, hz, hv, hh⟩ := hq
  cases hv
  have hL : L = [] := List.eq_nil_iff_forall_not_mem.mpr (fun q hq => hloc q hq)
  subst hL
  rw [List.append_nil]
  have e : H1 = H := by rw [← ht, hh, h0]
  subst e
  exact kk z hz
theorem zs_dadd (hx : p.tables.exec = Jvm.exec) (hb : c.code = cc) {own i : Nat} {Ts : List Cond} (hown : s.vm.findClass (znm own) = some m.cls) (hml : c.maxLocals = ls.length) (hts : ∀ w ∈ Ts, w.before args s = true) (hBT : ∀ w ∈ zBig, w ∈ Ts) (henv : zEnv A pa X adV s) (hA : ∀ q, s.heap.size ≤ q → A q) (hstr : zStrOK l A pa X adV) (hlk : Cond.methodLink (znm own) i zyLen ∈ lw_tbl) (hfr : 5 ≤ R.frames) (hlo : 190 ≤ R.locals) (hrc : rf.2.2.2.1 - σ0.2.2.2.1 ≤ R.cells) (hrs : rf.2.2.2.2 - σ0.2.2.2.2 ≤ R.slots) (hd : decode cc pc = .ok (.invokevirtual i, 3)) (hk : ∀ pc ls st σ, k pc ls st σ = some (rv, rf) → zG p l e R s m args below meth c Q D A pa ws0 σ0 rf pc ls st σ) (h : zstep X C .dadd ls st σ (pc + 3) k = some (rv, rf)) : zG p l e R s m args below meth c Q D A pa ws0 σ0 rf pc ls st σ := by
  simp only [zstep] at h
  split at h
  · split at h
    · next j r _ hsum =>
      split at h
      · next hj =>
        have hs8 : (r.map zcat).sum ≤ 8 := Nat.ble_eq.mp hsum
        have hz := hk _ _ _ _ h
        obtain ⟨hj19, ⟨b, ml, hco, hml13, hM⟩, -⟩ := hstr j hj.1 hj.2
        refine ⟨hz.1, fun ws tys H locs mls mst hn hK hR hP hD hS hxx hl hst => ?_⟩
        obtain ⟨w, m2, rfl, hw, hst⟩ := hst
        cases (show w = .ref (pa j) from hw)
        have hsz := hst.sum
        obtain ⟨hz1, hz2⟩ := hz.1
        exact zs_str (as := []) hx hb hown hml hl.1 hts hBT henv hA hj.1 hj19 rfl zstr_words.1 zstr_words.2.1 hco hml13 (by decide +kernel) hM hlk hfr hlo (by omega) (by omega) hS (by omega) hd (fun z hz' => hz.2 ws tys H locs mls _ hn hK hR hP hD hS hxx hl (zSR_int hz' hst))
      · cases h
    · cases h
  · cases h
theorem zs_dsub (hx : p.tables.exec = Jvm.exec) (hb : c.code = cc) {own i : Nat} {Ts : List Cond} (hown : s.vm.findClass (znm own) = some m.cls) (hml : c.maxLocals = ls.length) (hts : ∀ w ∈ Ts, w.before args s = true) (hBT : ∀ w ∈ zBig, w ∈ Ts) (henv : zEnv A pa X adV s) (hA : ∀ q, s.heap.size ≤ q → A q) (hstr : zStrOK l A pa X adV) (hlk : Cond.methodLink (znm own) i zyChr ∈ lw_tbl) (hfr : 5 ≤ R.frames) (hlo : 190 ≤ R.locals) (hrc : rf.2.2.2.1 - σ0.2.2.2.1 ≤ R.cells) (hrs : rf.2.2.2.2 - σ0.2.2.2.2 ≤ R.slots) (hd : decode cc pc = .ok (.invokevirtual i, 3)) (hk : ∀ pc ls st σ, k pc ls st σ = some (rv, rf) → zG p l e R s m args below meth c Q D A pa ws0 σ0 rf pc ls st σ) (h : zstep X C .dsub ls st σ (pc + 3) k = some (rv, rf)) : zG p l e R s m args below meth c Q D A pa ws0 σ0 rf pc ls st σ := by
  simp only [zstep] at h
  split at h
  · split at h
    · next i0 j r _ hsum =>
      split at h
      · next hj =>
        have hs8 : (r.map zcat).sum ≤ 8 := Nat.ble_eq.mp hsum
        have hz := hk _ _ _ _ h
        refine ⟨hz.1, fun ws tys H locs mls mst hn hK hR hP hD hS hxx hl hst => ?_⟩
        obtain ⟨_, _, rfl, ⟨x, rfl, rfl⟩, w, m2, rfl, hw, hst⟩ := hst
        cases (show w = .ref (pa j) from hw)
        obtain ⟨hj1, hj2, hj3⟩ := hj
        obtain ⟨hj19, -, hch⟩ := hstr j hj1 (by omega)
        obtain ⟨b, ml, hco, hml13, hM⟩ := hch x hj2 hj3
        have hsz := hst.sum
        obtain ⟨hz1, hz2⟩ := hz.1
        exact zs_str (as := [.int x]) hx hb hown hml hl.1 hts hBT henv hA hj1 hj19 rfl zstr_words.2.2.1 zstr_words.2.2.2.1 hco hml13 zpar_chr hM hlk hfr hlo (by omega) (by omega) hS (by omega) hd (fun z hz' => hz.2 ws tys H locs mls _ hn hK hR hP hD hS hxx hl (zSR_int hz' hst))
      · cases h
    · cases h
  · cases h
end ZOPS8
end
section
/-! EVERY STEP: a place of a method's code. -/
theorem zfind_mem : ∀ {code : List (Nat × (Instr × Nat))} {pc : Nat} {q : Instr × Nat}, zfind code pc = some q → (pc, q) ∈ code
  | [], pc, q, h => by cases h
  | (p, x) :: l, pc, q, h => by
    simp only [zfind] at h
    split at h
    · next hb =>
      cases h
      rw [Nat.eq_of_beq_eq_true hb]
      exact List.mem_cons_self
    · exact List.mem_cons_of_mem _ (zfind_mem h)
theorem zgood_of {own md : Nat} {b : ByteArray} {e : Nat × (Instr × Nat)} (h : zgood own md b e = true) : ∃ i n, decode b e.1 = .ok (i, n) ∧ znorm own md e.1 i = some e.2.1 ∧ e.2.2 = e.1 + n ∧ (zln i = 0 ∨ zln i = n) := by
  unfold zgood at h
  split at h
  · next i n hd =>
    simp only [Bool.and_eq_true, Bool.or_eq_true, decide_eq_true_eq] at h
    exact ⟨i, n, hd, h.1, Nat.eq_of_beq_eq_true h.2.1, h.2.2.elim (fun q => Or.inl (Nat.eq_of_beq_eq_true q)) (fun q => Or.inr (Nat.eq_of_beq_eq_true q))⟩
  · cases h
theorem zplook_mem : ∀ {l : List (Nat × (Nat × (Instr × Nat)))} {own ix : Nat} {i : Instr}, zplook l own ix = some i → ∃ P, (own, (ix, (i, P))) ∈ l
  | [], own, ix, i, h => by cases h
  | (o, (j, (i', P))) :: l, own, ix, i, h => by
    simp only [zplook] at h
    split at h
    · next hb =>
      cases h
      simp only [Bool.and_eq_true] at hb
      rw [Nat.eq_of_beq_eq_true hb.1, Nat.eq_of_beq_eq_true hb.2]
      exact ⟨P, List.mem_cons_self⟩
    · obtain ⟨P, hP⟩ := zplook_mem h
      exact ⟨P, List.mem_cons_of_mem _ hP⟩
theorem zpool_fact {own ix : Nat} {i : Instr} (h : zplook zpool own ix = some i) : ∃ c, c ∈ lw_tbl ∧ zwant own ix i c = true := by
  obtain ⟨P, hP⟩ := zplook_mem h
  have h1 := List.all_eq_true.mp zpool_ok _ hP
  unfold zpchk at h1
  split at h1
  · next c hc => exact ⟨c, List.mem_of_getElem? hc, h1⟩
  · cases h1
theorem zp_iconst {own ix : Nat} {n : Int} (h : zplook zpool own ix = some (.iconst n)) : (-2147483648 ≤ n ∧ n < 2147483648) ∧ Cond.constant (znm own) ix (Int32.ofInt n) ∈ lw_tbl := by
  obtain ⟨c, hc, hw⟩ := zpool_fact h
  simp only [zwant, Bool.and_eq_true, decide_eq_true_eq] at hw
  obtain ⟨h1, rfl⟩ := hw
  exact ⟨h1, hc⟩
theorem zp_sipush {own ix : Nat} {n : Int} (h : zplook zpool own ix = some (.sipush n)) : (-9223372036854775808 ≤ n ∧ n < 9223372036854775808) ∧ Cond.constantLong (znm own) ix (Int64.ofInt n) ∈ lw_tbl := by
  obtain ⟨c, hc, hw⟩ := zpool_fact h
  simp only [zwant, Bool.and_eq_true, decide_eq_true_eq] at hw
  obtain ⟨h1, rfl⟩ := hw
  exact ⟨h1, hc⟩
theorem zp_getfield {own ix n : Nat} (h : zplook zpool own ix = some (.getfield n)) : zFK n ∧ Cond.fieldLink (znm own) ix (zfT n).1 (zfT n).2.1 (zfT n).2.2.1 ∈ lw_tbl := by
  obtain ⟨c, hc, hw⟩ := zpool_fact h
  simp only [zwant, Bool.and_eq_true, decide_eq_true_eq] at hw
  obtain ⟨⟨⟨⟨h1, h2⟩, h3⟩, h4⟩, h5⟩ := hw
  refine ⟨⟨h1, h2, h4, ?_⟩, h3 ▸ hc⟩
  have hm : n % 4 < 4 := Nat.mod_lt _ (by decide)
  rcases (show n % 4 = 0 ∨ n % 4 = 1 ∨ n % 4 = 2 ∨ n % 4 = 3 by omega) with e | e | e | e
  · rw [e] at h5; exact Or.inl ⟨e, of_decide_eq_true h5⟩
  · rw [e] at h5; exact Or.inr (Or.inl ⟨e, of_decide_eq_true h5⟩)
  · rw [e] at h5; exact Or.inr (Or.inr (Or.inl ⟨e, of_decide_eq_true h5⟩))
  · rw [e] at h5; exact Or.inr (Or.inr (Or.inr ⟨e, of_decide_eq_true h5⟩))
theorem zp_getstatic {own ix j : Nat} (h : zplook zpool own ix = some (.getstatic j)) : (1 ≤ j ∧ j ≤ 3) ∧ (Cond.fieldLink (znm own) ix (zstat j).1 (zstat j).2.1 (zstat j).2.2 ∈ lw_tbl ∨ ∃ host, Cond.fieldLinkNest (znm own) ix (zstat j).1 (zstat j).2.1 (zstat j).2.2 host ∈ lw_tbl) := by
  obtain ⟨c, hc, hw⟩ := zpool_fact h
  simp only [zwant, Bool.and_eq_true, decide_eq_true_eq] at hw
  obtain ⟨h1, h2⟩ := hw
  refine ⟨h1, ?_⟩
  split at h2
  · simp only [decide_eq_true_eq] at h2
    obtain ⟨rfl, rfl, rfl, rfl, rfl⟩ := h2
    exact Or.inl hc
  · simp only [decide_eq_true_eq] at h2
    obtain ⟨rfl, rfl, rfl, rfl, rfl⟩ := h2
    exact Or.inr ⟨_, hc⟩
  · cases h2
theorem zp_new {own ix n : Nat} (h : zplook zpool own ix = some (.new n)) : n / 256 < 11 ∧ n % 256 = znf (n / 256) ∧ Cond.classLink (znm own) ix (znm (n / 256)) ∈ lw_tbl := by
  obtain ⟨c, hc, hw⟩ := zpool_fact h
  simp only [zwant, Bool.and_eq_true, decide_eq_true_eq] at hw
  obtain ⟨⟨h1, h2⟩, rfl⟩ := hw
  exact ⟨h1, h2, hc⟩
theorem zp_multi {own ix a b : Nat} (h : zplook zpool own ix = some (.multianewarray a b)) : Cond.classLink (znm own) ix "[[J" ∈ lw_tbl := by
  obtain ⟨c, hc, hw⟩ := zpool_fact h
  simp only [zwant, decide_eq_true_eq] at hw
  subst hw
  exact hc
theorem zp_invokevirtual {own ix n : Nat} (h : zplook zpool own ix = some (.invokevirtual n)) : ∃ q, zM[n / 1024]? = some q ∧ q.2.2.2.2.2.2.1 = 1 ∧ q.1 = n / 16 % 64 ∧ q.2.2.2.2.2.1 = n % 16 ∧ (Cond.methodLink (znm own) ix q.2.1 ∈ lw_tbl ∨ ∃ host, Cond.methodLinkNest (znm own) ix q.2.1 host ∈ lw_tbl) := by
  obtain ⟨c, hc, hw⟩ := zpool_fact h
  simp only [zwant] at hw
  split at hw
  · next q hq =>
    simp only [Bool.and_eq_true, decide_eq_true_eq] at hw
    obtain ⟨⟨h1, h4, h3⟩, h2⟩ := hw
    refine ⟨q, hq, h1, h4, h3, ?_⟩
    split at h2
    · simp only [decide_eq_true_eq] at h2
      obtain ⟨rfl, rfl, rfl⟩ := h2
      exact Or.inl hc
    · simp only [decide_eq_true_eq] at h2
      obtain ⟨rfl, rfl, rfl⟩ := h2
      exact Or.inr ⟨_, hc⟩
    · cases h2
  · cases hw
theorem zp_invokespecial {own ix n : Nat} (h : zplook zpool own ix = some (.invokespecial n)) : ∃ q, zM[n / 1024]? = some q ∧ q.2.2.2.2.2.2.1 = 2 ∧ q.1 = n / 16 % 64 ∧ q.2.2.2.2.2.1 = n % 16 ∧ (Cond.methodLink (znm own) ix q.2.1 ∈ lw_tbl ∨ ∃ host, Cond.methodLinkNest (znm own) ix q.2.1 host ∈ lw_tbl) := by
  obtain ⟨c, hc, hw⟩ := zpool_fact h
  simp only [zwant] at hw
  split at hw
  · next q hq =>
    simp only [Bool.and_eq_true, decide_eq_true_eq] at hw
    obtain ⟨⟨h1, h4, h3⟩, h2⟩ := hw
    refine ⟨q, hq, h1, h4, h3, ?_⟩
    split at h2
    · simp only [decide_eq_true_eq] at h2
      obtain ⟨rfl, rfl, rfl⟩ := h2
      exact Or.inl hc
    · simp only [decide_eq_true_eq] at h2
      obtain ⟨rfl, rfl, rfl⟩ := h2
      exact Or.inr ⟨_, hc⟩
    · cases h2
  · cases hw
theorem zp_invokestatic {own ix n : Nat} (h : zplook zpool own ix = some (.invokestatic n)) : ∃ q, zM[n / 1024]? = some q ∧ q.2.2.2.2.2.2.1 = 0 ∧ q.2.2.2.2.2.1 = n % 16 ∧ (Cond.methodLink (znm own) ix q.2.1 ∈ lw_tbl ∨ ∃ host, Cond.methodLinkNest (znm own) ix q.2.1 host ∈ lw_tbl) := by
  obtain ⟨c, hc, hw⟩ := zpool_fact h
  simp only [zwant] at hw
  split at hw
  · next q hq =>
    simp only [Bool.and_eq_true, decide_eq_true_eq] at hw
    obtain ⟨⟨h1, h3⟩, h2⟩ := hw
    refine ⟨q, hq, h1, h3, ?_⟩
    split at h2
    · simp only [decide_eq_true_eq] at h2
      obtain ⟨rfl, rfl, rfl⟩ := h2
      exact Or.inl hc
    · simp only [decide_eq_true_eq] at h2
      obtain ⟨rfl, rfl, rfl⟩ := h2
      exact Or.inr ⟨_, hc⟩
    · cases h2
  · cases hw
theorem zp_fadd {own ix : Nat} (h : zplook zpool own ix = some .fadd) : Cond.methodLink (znm own) ix Lib.Math.min.name ∈ lw_tbl := by
  obtain ⟨c, hc, hw⟩ := zpool_fact h
  simp only [zwant, decide_eq_true_eq] at hw
  subst hw
  exact hc
theorem zp_fsub {own ix : Nat} (h : zplook zpool own ix = some .fsub) : Cond.methodLink (znm own) ix Lib.Math.max.name ∈ lw_tbl := by
  obtain ⟨c, hc, hw⟩ := zpool_fact h
  simp only [zwant, decide_eq_true_eq] at hw
  subst hw
  exact hc
theorem zp_swap {own ix : Nat} (h : zplook zpool own ix = some .swap) : Cond.methodLink (znm own) ix arraycopyName ∈ lw_tbl := by
  obtain ⟨c, hc, hw⟩ := zpool_fact h
  simp only [zwant, decide_eq_true_eq] at hw
  subst hw
  exact hc
theorem zp_nop {own ix : Nat} (h : zplook zpool own ix = some .nop) : Cond.methodLink (znm own) ix objectInit ∈ lw_tbl := by
  obtain ⟨c, hc, hw⟩ := zpool_fact h
  simp only [zwant, decide_eq_true_eq] at hw
  subst hw
  exact hc
theorem zp_dadd {own ix : Nat} (h : zplook zpool own ix = some .dadd) : Cond.methodLink (znm own) ix zyLen ∈ lw_tbl := by
  obtain ⟨c, hc, hw⟩ := zpool_fact h
  simp only [zwant, decide_eq_true_eq] at hw
  subst hw
  exact hc
theorem zp_dsub {own ix : Nat} (h : zplook zpool own ix = some .dsub) : Cond.methodLink (znm own) ix zyChr ∈ lw_tbl := by
  obtain ⟨c, hc, hw⟩ := zpool_fact h
  simp only [zwant, decide_eq_true_eq] at hw
  subst hw
  exact hc
theorem zM_get {y : Nat} {q : zMt} (h : zM[y]? = some q) : zMF q := zMF_of (List.all_eq_true.mp zM_ok q (List.mem_of_getElem? h))
theorem zmisc : Cond.static Lib.Math.min.name ∈ lw_tbl ∧ Cond.static Lib.Math.max.name ∈ lw_tbl ∧ Cond.initialized "java/lang/Math" ∈ lw_tbl ∧ Cond.code Lib.Math.min.name Lib.Math.min.code 2 (some .int) ∈ lw_tbl ∧ Cond.code Lib.Math.max.name Lib.Math.max.code 2 (some .int) ∈ lw_tbl ∧ Cond.native arraycopyName ∈ lw_tbl ∧ Cond.static arraycopyName ∈ lw_tbl ∧ Cond.initialized "java/lang/System" ∈ lw_tbl ∧ Cond.instanceMethod objectInit ∈ lw_tbl ∧ Cond.code objectInit ⟨#[0xb1]⟩ 1 none ∈ lw_tbl ∧ Cond.arrayClass .int ∈ lw_tbl ∧ Cond.arrayClass .long ∈ lw_tbl ∧ Cond.arrayClass .byte ∈ lw_tbl := by decide +kernel
/-- the return of a method fits its type -/
def zretok (ret : Option FieldType) (i : Instr) : Bool := match i with
  | .ireturn => decide (ret = some .int)
  | .freturn => decide (ret = some .boolean)
  | .lreturn => decide (ret = some .long)
  | .areturn => (match ret with
    | some (.object _) => true
    | _ => false)
  | .return_ => decide (ret = none)
  | .anewarray c => decide (Cond.arrayOver (.object (znm c)) ∈ lw_tbl)
  | _ => true
theorem zln_eq {i : Instr} {n k : Nat} (h : zln i = 0 ∨ zln i = n) (hk : zln i = k) (h0 : k ≠ 0) : n = k := by omega
section ZSIM
variable {p : Program} {l : Launch} {e : Env} {R : Room} {s : State} {m : MethodId} {args : Array Value} {below : List Frame} {meth : Method} {c : Code} {cc : ByteArray} {Q : State → Prop} {D : va_G} {A : Nat → Prop} {pa : Nat → Nat} {ws0 : va_W} {σ0 rf : zMem}
variable {X : zX} {adV : Nat → Nat} {P : zT} {rv : Option zV}
/-- the ends of a method -/
def zRets (p : Program) (l : Launch) (e : Env) (R : Room) (s : State) (m : MethodId) (args : Array Value) (below : List Frame) (meth : Method) (c : Code) (cc : ByteArray) (Q : State → Prop) (D : va_G) (A : Nat → Prop) (pa : Nat → Nat) (ws0 : va_W) (σ0 rf : zMem) (rv : Option zV) (ret : Option FieldType) : Prop :=
  ∀ (ws : va_W) (tys : List (ClassId × FieldType)) (H : Heap) (locs : List Loc) (mls : Array Slot) (pc : Nat), va_K D zcl tys s → zRel rf ws tys → va_P D zcl ws H → va_D A ws → va_S A s.heap H locs → zext ws0 ws →
    (∀ x : Int32, rv = some (.inl x.toInt) → (ret = some .int ∨ (ret = some .boolean ∧ (x.toInt = 0 ∨ x.toInt = 1))) → decode cc pc = .ok (.ireturn, 1) → W p l e R s m args below meth c H locs (rf.2.2.2.1 - σ0.2.2.2.1) (rf.2.2.2.2 - σ0.2.2.2.2) Q (F0 m pc mls [.int x])) ∧
    (∀ x : Int64, rv = some (.inr (.inl x.toInt)) → ret = some .long → decode cc pc = .ok (.lreturn, 1) → W p l e R s m args below meth c H locs (rf.2.2.2.1 - σ0.2.2.2.1) (rf.2.2.2.2 - σ0.2.2.2.2) Q (F0 m pc mls [.long x])) ∧
    (∀ (z : Nat ⊕ Nat) (w : Value), rv = some (.inr (.inr z)) → zVR pa ws (.inr (.inr z)) w → (∃ n, ret = some (.object n)) → decode cc pc = .ok (.areturn, 1) → W p l e R s m args below meth c H locs (rf.2.2.2.1 - σ0.2.2.2.1) (rf.2.2.2.2 - σ0.2.2.2.2) Q (F0 m pc mls [w])) ∧
    (rv = none → ret = none → decode cc pc = .ok (.return_, 1) → W p l e R s m args below meth c H locs (rf.2.2.2.1 - σ0.2.2.2.1) (rf.2.2.2.2 - σ0.2.2.2.2) Q (F0 m pc mls []))
theorem zpre_of (hx : p.tables.exec = Jvm.exec) (hb : c.code = cc) (henv : zEnv A pa X adV s) : zPre p l e R s m args below meth c cc Q A pa X := by
  obtain ⟨-, -, -, hst, ⟨L, xs, hX0, hL, hXs, hb0, hA0⟩, -⟩ := henv
  intro j H locs cells slots pc mls rest hS hj
  by_cases h0 : j = 0
  · subst h0
    rw [hX0]
    refine ⟨fun i h1 h2 hd kk => ?_, fun hd kk => ?_⟩
    · exact va_sld hx hb hXs hb0 hA0 hS (zn_vpin h1 h2) hd (kk _ rfl)
    · exact va_slen hx hb hXs hb0 hA0 hS hd (kk _ (zn_ofNat hL))
  · obtain ⟨-, hT, hln, hin⟩ := hst j (by omega) (by omega)
    refine ⟨fun i h1 h2 hd kk => ?_, fun hd kk => ?_⟩
    · refine va_ti hx hb hT hS (zn_vpin h1 h2) rfl hd (kk _ ?_)
      rw [zn_ofInt]
      exact hin i.toInt.toNat (by omega)
    · exact va_tlen hx hb hT hS rfl hd (kk _ (zn_ofNat hln))
theorem zsim {own md d nl : Nat} {Ts : List Cond} {ret : Option FieldType} {code : List (Nat × (Instr × Nat))} (hx : p.tables.exec = Jvm.exec) (hb : c.code = cc) (hown : s.vm.findClass (znm own) = some m.cls) (hml : c.maxLocals = nl) (hts : ∀ w ∈ Ts, w.before args s = true) (hBT : ∀ w ∈ zBig, w ∈ Ts) (henv : zEnv A pa X adV s) (hA : ∀ q, s.heap.size ≤ q → A q) (hstr : zStrOK l A pa X adV) (hM : zMet l D A pa X adV P d) (hcode : ∀ e ∈ code, zgood own md cc e = true) (hro : ∀ e ∈ code, zretok ret e.2.1 = true) (hinit : md = 2 → meth.name = "<init>") (hfr : d + 6 ≤ R.frames) (hlo : 40 * (d + 1) + 250 ≤ R.locals) (hrc : rf.2.2.2.1 - σ0.2.2.2.1 ≤ R.cells) (hrs : rf.2.2.2.2 - σ0.2.2.2.2 ≤ R.slots) (hret : zRets p l e R s m args below meth c cc Q D A pa ws0 σ0 rf rv ret) : ∀ (n pc : Nat) (ls : zLoc) (st : List zV) (σ : zMem), ls.length = nl → zrun X (zcal X P d) code n pc ls st σ = some (rv, rf) → zG p l e R s m args below meth c Q D A pa ws0 σ0 rf pc ls st σ := by
  have hpre : zPre p l e R s m args below meth c cc Q A pa X := zpre_of hx hb henv
  have big : ∀ {w : Cond}, w ∈ lw_tbl → goodWord w = true → w.before args s = true := fun h g => hts _ (hBT _ (zBig_in h g))
  obtain ⟨z1, z2, z3, z4, z5, z6, z7, z8, z9, z10, z11, z12, z13⟩ := zmisc
  intro n
  induction n with
  | zero => intro pc ls st σ hl h; cases h
  | succ n ih =>
    intro pc ls st σ hl h
    simp only [zrun] at h
    split at h
    · cases h
    next j nx hf =>
    have hmem := zfind_mem hf
    obtain ⟨i, ln, hd, hno, hnx, hln⟩ := zgood_of (hcode _ hmem)
    have hr := hro _ hmem
    have h : zstep X (zcal X P d) j ls st σ nx (fun pc ls' st σ => if ls'.length = nl then zrun X (zcal X P d) code n pc ls' st σ else none) = some (rv, rf) := zstep_monoL (fun pc ls' st σ r hl' hh => by rw [if_pos (hl'.trans hl)]; exact hh) h
    have hk : ∀ pc ls' st σ, (fun pc ls' st σ => if ls'.length = nl then zrun X (zcal X P d) code n pc ls' st σ else none) pc ls' st σ = some (rv, rf) → zG p l e R s m args below meth c Q D A pa ws0 σ0 rf pc ls' st σ := by
      intro pc ls' st σ hh
      dsimp only at hh
      split at hh
      · next hl' => exact ih pc ls' st σ hl' hh
      · cases hh
    generalize (fun (pc : Nat) (ls' : zLoc) (st : List zV) (σ : zMem) => if ls'.length = nl then zrun X (zcal X P d) code n pc ls' st σ else none) = k at h hk
    dsimp only at hno hnx hd
    have hml' : c.maxLocals = ls.length := hml.trans hl.symm
    cases i with
    | iadd =>
      cases hno
      cases zln_eq (k := 1) hln rfl (Nat.succ_ne_zero _)
      subst hnx
      exact zs_iadd hx hb hd hk h
    | isub =>
      cases hno
      cases zln_eq (k := 1) hln rfl (Nat.succ_ne_zero _)
      subst hnx
      exact zs_isub hx hb hd hk h
    | imul =>
      cases hno
      cases zln_eq (k := 1) hln rfl (Nat.succ_ne_zero _)
      subst hnx
      exact zs_imul hx hb hd hk h
    | idiv =>
      cases hno
      cases zln_eq (k := 1) hln rfl (Nat.succ_ne_zero _)
      subst hnx
      exact zs_idiv hx hb hd hk h
    | irem =>
      cases hno
      cases zln_eq (k := 1) hln rfl (Nat.succ_ne_zero _)
      subst hnx
      exact zs_irem hx hb hd hk h
    | iand =>
      cases hno
      cases zln_eq (k := 1) hln rfl (Nat.succ_ne_zero _)
      subst hnx
      exact zs_iand hx hb hd hk h
    | ior =>
      cases hno
      cases zln_eq (k := 1) hln rfl (Nat.succ_ne_zero _)
      subst hnx
      exact zs_ior hx hb hd hk h
    | ishl =>
      cases hno
      cases zln_eq (k := 1) hln rfl (Nat.succ_ne_zero _)
      subst hnx
      exact zs_ishl hx hb hd hk h
    | ishr =>
      cases hno
      cases zln_eq (k := 1) hln rfl (Nat.succ_ne_zero _)
      subst hnx
      exact zs_ishr hx hb hd hk h
    | iushr =>
      cases hno
      cases zln_eq (k := 1) hln rfl (Nat.succ_ne_zero _)
      subst hnx
      exact zs_iushr hx hb hd hk h
    | i2l =>
      cases hno
      cases zln_eq (k := 1) hln rfl (Nat.succ_ne_zero _)
      subst hnx
      exact zs_i2l hx hb hd hk h
    | l2i =>
      cases hno
      cases zln_eq (k := 1) hln rfl (Nat.succ_ne_zero _)
      subst hnx
      exact zs_l2i hx hb hd hk h
    | i2b =>
      cases hno
      cases zln_eq (k := 1) hln rfl (Nat.succ_ne_zero _)
      subst hnx
      exact zs_i2b hx hb hd hk h
    | i2s =>
      cases hno
      cases zln_eq (k := 1) hln rfl (Nat.succ_ne_zero _)
      subst hnx
      exact zs_i2s hx hb hd hk h
    | ladd =>
      cases hno
      cases zln_eq (k := 1) hln rfl (Nat.succ_ne_zero _)
      subst hnx
      exact zs_ladd hx hb hd hk h
    | lsub =>
      cases hno
      cases zln_eq (k := 1) hln rfl (Nat.succ_ne_zero _)
      subst hnx
      exact zs_lsub hx hb hd hk h
    | lmul =>
      cases hno
      cases zln_eq (k := 1) hln rfl (Nat.succ_ne_zero _)
      subst hnx
      exact zs_lmul hx hb hd hk h
    | lcmp =>
      cases hno
      cases zln_eq (k := 1) hln rfl (Nat.succ_ne_zero _)
      subst hnx
      exact zs_lcmp hx hb hd hk h
    | dup =>
      cases hno
      cases zln_eq (k := 1) hln rfl (Nat.succ_ne_zero _)
      subst hnx
      exact zs_dup hx hb hd hk h
    | dup2 =>
      cases hno
      cases zln_eq (k := 1) hln rfl (Nat.succ_ne_zero _)
      subst hnx
      exact zs_dup2 hx hb hd hk h
    | pop =>
      cases hno
      cases zln_eq (k := 1) hln rfl (Nat.succ_ne_zero _)
      subst hnx
      exact zs_pop hx hb hd hk h
    | laload =>
      cases hno
      cases zln_eq (k := 1) hln rfl (Nat.succ_ne_zero _)
      subst hnx
      exact zs_laload hx hb hd hk h
    | baload =>
      cases hno
      cases zln_eq (k := 1) hln rfl (Nat.succ_ne_zero _)
      subst hnx
      exact zs_baload hx hb hd hk h
    | aaload =>
      cases hno
      cases zln_eq (k := 1) hln rfl (Nat.succ_ne_zero _)
      subst hnx
      exact zs_aaload hx hb hd hk h
    | iastore =>
      cases hno
      cases zln_eq (k := 1) hln rfl (Nat.succ_ne_zero _)
      subst hnx
      exact zs_iastore hx hb hd hk h
    | lastore =>
      cases hno
      cases zln_eq (k := 1) hln rfl (Nat.succ_ne_zero _)
      subst hnx
      exact zs_lastore hx hb hd hk h
    | bastore =>
      cases hno
      cases zln_eq (k := 1) hln rfl (Nat.succ_ne_zero _)
      subst hnx
      exact zs_bastore hx hb hd hk h
    | aastore =>
      cases hno
      cases zln_eq (k := 1) hln rfl (Nat.succ_ne_zero _)
      subst hnx
      exact zs_aastore hx hb hd hk h
    | iaload =>
      cases hno
      cases zln_eq (k := 1) hln rfl (Nat.succ_ne_zero _)
      subst hnx
      exact zs_iaload hx hb hpre hd hk h
    | arraylength =>
      cases hno
      cases zln_eq (k := 1) hln rfl (Nat.succ_ne_zero _)
      subst hnx
      exact zs_arraylength hx hb hpre hd hk h
    | iconst v =>
      simp only [znorm] at hno
      split at hno
      · next hv =>
        cases hno
        cases zln_eq (k := 1) hln rfl (Nat.succ_ne_zero _)
        subst hnx
        exact zs_iconst hx hb hd hv hk h
      · cases hno
    | bipush v =>
      simp only [znorm] at hno
      split at hno
      · next hv =>
        cases hno
        cases zln_eq (k := 2) hln rfl (Nat.succ_ne_zero _)
        subst hnx
        exact zs_bipush hx hb hd hv hk h
      · cases hno
    | sipush v =>
      simp only [znorm] at hno
      split at hno
      · next hv =>
        cases hno
        cases zln_eq (k := 3) hln rfl (Nat.succ_ne_zero _)
        subst hnx
        exact zs_sipush hx hb hd hv hk h
      · cases hno
    | lconst v =>
      cases hno
      cases zln_eq (k := 1) hln rfl (Nat.succ_ne_zero _)
      subst hnx
      exact zs_lconst hx hb hd hk h
    | iload v =>
      cases hno
      cases zln_eq (k := 2) hln rfl (Nat.succ_ne_zero _)
      subst hnx
      exact zs_iload hx hb hd hk h
    | iload_n v =>
      cases hno
      cases zln_eq (k := 1) hln rfl (Nat.succ_ne_zero _)
      subst hnx
      exact zs_iload_n hx hb hd hk h
    | lload v =>
      cases hno
      cases zln_eq (k := 2) hln rfl (Nat.succ_ne_zero _)
      subst hnx
      exact zs_lload hx hb hd hk h
    | lload_n v =>
      cases hno
      cases zln_eq (k := 1) hln rfl (Nat.succ_ne_zero _)
      subst hnx
      exact zs_lload_n hx hb hd hk h
    | aload v =>
      cases hno
      cases zln_eq (k := 2) hln rfl (Nat.succ_ne_zero _)
      subst hnx
      exact zs_aload hx hb hd hk h
    | aload_n v =>
      cases hno
      cases zln_eq (k := 1) hln rfl (Nat.succ_ne_zero _)
      subst hnx
      exact zs_aload_n hx hb hd hk h
    | istore v =>
      cases hno
      cases zln_eq (k := 2) hln rfl (Nat.succ_ne_zero _)
      subst hnx
      exact zs_istore hx hb hd hk h
    | istore_n v =>
      cases hno
      cases zln_eq (k := 1) hln rfl (Nat.succ_ne_zero _)
      subst hnx
      exact zs_istore_n hx hb hd hk h
    | lstore v =>
      cases hno
      cases zln_eq (k := 2) hln rfl (Nat.succ_ne_zero _)
      subst hnx
      exact zs_lstore hx hb hd hk h
    | lstore_n v =>
      cases hno
      cases zln_eq (k := 1) hln rfl (Nat.succ_ne_zero _)
      subst hnx
      exact zs_lstore_n hx hb hd hk h
    | astore v =>
      cases hno
      cases zln_eq (k := 2) hln rfl (Nat.succ_ne_zero _)
      subst hnx
      exact zs_astore hx hb hd hk h
    | astore_n v =>
      cases hno
      cases zln_eq (k := 1) hln rfl (Nat.succ_ne_zero _)
      subst hnx
      exact zs_astore_n hx hb hd hk h
    | iinc v w =>
      cases hno
      cases zln_eq (k := 3) hln rfl (Nat.succ_ne_zero _)
      subst hnx
      exact zs_iinc hx hb hd hk h
    | ldc ix =>
      simp only [znorm] at hno
      cases zln_eq (k := 2) hln rfl (Nat.succ_ne_zero _)
      subst hnx
      split at hno
      · next v hp =>
        cases hno
        obtain ⟨h1, h2⟩ := zp_iconst hp
        exact zs_ldc hx hb hown (big h2 rfl) h1 hd hk h
      · next v hp =>
        cases hno
        exact zs_ldcS hx hb hown (henv.2.2.2.2.2.2.2 own ix v hp) hd hk h
      · cases hno
    | ldc_w ix =>
      simp only [znorm] at hno
      cases zln_eq (k := 3) hln rfl (Nat.succ_ne_zero _)
      subst hnx
      split at hno
      · next v hp =>
        cases hno
        obtain ⟨h1, h2⟩ := zp_iconst hp
        exact zs_ldcw hx hb hown (big h2 rfl) h1 hd hk h
      · cases hno
    | ldc2_w ix =>
      simp only [znorm] at hno
      cases zln_eq (k := 3) hln rfl (Nat.succ_ne_zero _)
      subst hnx
      split at hno
      · next v hp =>
        cases hno
        obtain ⟨h1, h2⟩ := zp_sipush hp
        exact zs_ldc2 hx hb hown (big h2 rfl) h1 hd hk h
      · cases hno
    | ifCond cd o =>
      simp only [znorm] at hno
      split at hno
      · next ho =>
        cases hno
        cases zln_eq (k := 3) hln rfl (Nat.succ_ne_zero _)
        subst hnx
        cases cd
        · exact zs_ifCond_eq hx hb hd ho hk h
        · exact zs_ifCond_ne hx hb hd ho hk h
        · exact zs_ifCond_lt hx hb hd ho hk h
        · exact zs_ifCond_ge hx hb hd ho hk h
        · exact zs_ifCond_gt hx hb hd ho hk h
        · exact zs_ifCond_le hx hb hd ho hk h
      · cases hno
    | if_icmp cd o =>
      simp only [znorm] at hno
      split at hno
      · next ho =>
        cases hno
        cases zln_eq (k := 3) hln rfl (Nat.succ_ne_zero _)
        subst hnx
        cases cd
        · exact zs_if_icmp_eq hx hb hd ho hk h
        · exact zs_if_icmp_ne hx hb hd ho hk h
        · exact zs_if_icmp_lt hx hb hd ho hk h
        · exact zs_if_icmp_ge hx hb hd ho hk h
        · exact zs_if_icmp_gt hx hb hd ho hk h
        · exact zs_if_icmp_le hx hb hd ho hk h
      · cases hno
    | goto o =>
      simp only [znorm] at hno
      split at hno
      · next ho =>
        cases hno
        cases zln_eq (k := 3) hln rfl (Nat.succ_ne_zero _)
        exact zs_goto hx hb hd ho hk h
      · cases hno
    | tableswitch dd lo hi ts =>
      simp only [znorm] at hno
      split at hno
      · next ho =>
        cases hno
        exact zs_tableswitch hx hb hd ho.1 ho.2 hk h
      · cases hno
    | lookupswitch dd ps =>
      simp only [znorm] at hno
      split at hno
      · next ho =>
        cases hno
        exact zs_lookupswitch hx hb hd ho.1 ho.2.1 ho.2.2 hk h
      · cases hno
    | getfield ix =>
      simp only [znorm] at hno
      cases zln_eq (k := 3) hln rfl (Nat.succ_ne_zero _)
      subst hnx
      split at hno
      · next v hp =>
        cases hno
        obtain ⟨h1, h2⟩ := zp_getfield hp
        exact zs_getfield hx hb hown hts (fun w hw => hBT _ (zBig_in ((zclass_ok _ h1.1).2.1 w hw) (zlay_good hw))) h1 (big h2 rfl) hd hk h
      · cases hno
    | putfield ix =>
      simp only [znorm] at hno
      cases zln_eq (k := 3) hln rfl (Nat.succ_ne_zero _)
      subst hnx
      split at hno
      · next v hp =>
        split at hno
        · next hfin =>
          cases hno
          obtain ⟨h1, h2⟩ := zp_getfield hp
          exact zs_putfield hx hb hown hts (fun w hw => hBT _ (zBig_in ((zclass_ok _ h1.1).2.1 w hw) (zlay_good hw))) h1 (hfin.imp (fun q => q) (fun q => ⟨hinit q.1, q.2⟩)) (big h2 rfl) hd hk h
        · cases hno
      · cases hno
    | getstatic ix =>
      simp only [znorm] at hno
      cases zln_eq (k := 3) hln rfl (Nat.succ_ne_zero _)
      subst hnx
      split at hno
      · next v hp =>
        cases hno
        obtain ⟨h1, h2⟩ := zp_getstatic hp
        refine zs_getstatic hx hb hown (henv.2.2.2.1 v h1.1 h1.2).1 ?_ hd hk h
        rcases h2 with h2 | ⟨host, h2⟩
        · exact Or.inl (big h2 rfl)
        · exact Or.inr ⟨host, va_Nw.use rfl (henv.1 _ h2 rfl)⟩
      · cases hno
    | invokevirtual ix =>
      simp only [znorm] at hno
      cases zln_eq (k := 3) hln rfl (Nat.succ_ne_zero _)
      subst hnx
      split at hno
      · next v hp =>
        cases hno
        obtain ⟨q, h1, h2, h3, h4, h5⟩ := zp_invokevirtual hp
        exact zs_invokevirtual hx hb hown hml' hts hBT henv hA hM h1 (zM_get h1) h2 h3 h4 h5 hfr hlo hrc hrs hd hk h
      · next hp =>
        cases hno
        exact zs_dadd hx hb hown hml' hts hBT henv hA hstr (zp_dadd hp) (by omega) (by omega) hrc hrs hd hk h
      · next hp =>
        cases hno
        exact zs_dsub hx hb hown hml' hts hBT henv hA hstr (zp_dsub hp) (by omega) (by omega) hrc hrs hd hk h
      · cases hno
    | invokestatic ix =>
      simp only [znorm] at hno
      cases zln_eq (k := 3) hln rfl (Nat.succ_ne_zero _)
      subst hnx
      split at hno
      · next v hp =>
        cases hno
        obtain ⟨q, h1, h2, h4, h5⟩ := zp_invokestatic hp
        exact zs_invokestatic hx hb hown hml' hts hBT henv hA hM h1 (zM_get h1) h2 h4 h5 hfr hlo hrc hrs hd hk h
      · next hp =>
        cases hno
        exact zs_fadd hx hb hown (big (zp_fadd hp) rfl) (big z1 rfl) (big z3 rfl) (big z4 rfl) hml' (by omega) (by omega) hrc hrs hd hk h
      · next hp =>
        cases hno
        exact zs_fsub hx hb hown (big (zp_fsub hp) rfl) (big z2 rfl) (big z3 rfl) (big z5 rfl) hml' (by omega) (by omega) hrc hrs hd hk h
      · next hp =>
        cases hno
        exact zs_swap hx hb hown (big (zp_swap hp) rfl) (big z6 rfl) (big z7 rfl) (big z8 rfl) hml' (by omega) (by omega) hd hk h
      · cases hno
    | invokespecial ix =>
      simp only [znorm] at hno
      cases zln_eq (k := 3) hln rfl (Nat.succ_ne_zero _)
      subst hnx
      split at hno
      · next v hp =>
        cases hno
        obtain ⟨q, h1, h2, h3, h4, h5⟩ := zp_invokespecial hp
        exact zs_invokespecial hx hb hown hml' hts hBT henv hA hM h1 (zM_get h1) h2 h3 h4 h5 hfr hlo hrc hrs hd hk h
      · next hp =>
        cases hno
        exact zs_nop hx hb hown (big (zp_nop hp) rfl) (big z9 rfl) (big z10 rfl) hml' (by omega) (by omega) hd hk h
      · cases hno
    | new ix =>
      simp only [znorm] at hno
      cases zln_eq (k := 3) hln rfl (Nat.succ_ne_zero _)
      subst hnx
      split at hno
      · next v hp =>
        cases hno
        obtain ⟨h1, h2, h3⟩ := zp_new hp
        obtain ⟨c1, c2, c3, c4, c5, c6⟩ := zclass_ok _ h1
        exact zs_new hx hb hown hts h1 h2 (fun w hw => hBT _ (zBig_in (c2 w hw) (zlay_good hw))) (big h3 rfl) (big c5 rfl) (big c6 rfl) hA hrc hrs hd hk h
      · cases hno
    | anewarray ix =>
      simp only [znorm] at hno
      cases zln_eq (k := 3) hln rfl (Nat.succ_ne_zero _)
      subst hnx
      split at hno
      · next v hp =>
        cases hno
        obtain ⟨h1, h2, h3⟩ := zp_new hp
        have hov : Cond.arrayOver (.object (znm (v / 256))) ∈ lw_tbl := by simpa [zretok] using hr
        exact zs_anewarray hx hb hown (big h3 rfl) (henv.2.1 _ hov) hA hrc hrs hd hk h
      · cases hno
    | newarray t =>
      cases hno
      cases zln_eq (k := 2) hln rfl (Nat.succ_ne_zero _)
      subst hnx
      exact zs_newarray hx hb hA hrc hrs (big z11 rfl) (big z12 rfl) (big z13 rfl) hd hk h
    | multianewarray ix dm =>
      by_cases hdm : dm = 2
      · subst hdm
        simp only [znorm] at hno
        cases zln_eq (k := 4) hln rfl (Nat.succ_ne_zero _)
        subst hnx
        split at hno
        · next v hp =>
          cases hno
          exact zs_multi hx hb hown (big (zp_multi hp) rfl) henv.2.2.1 (big z12 rfl) hA hrc hrs hd hk h
        · cases hno
      · exfalso
        unfold znorm at hno
        split at hno <;> first | (cases hno; done) | (simp_all; done)
    | ireturn =>
      simp only [znorm] at hno
      cases zln_eq (k := 1) hln rfl (Nat.succ_ne_zero _)
      subst hnx
      split at hno
      · cases hno
        have hrt : ret = some .boolean := by simpa [zretok] using hr
        simp only [zstep] at h
        split at h
        · split at h
          · next z hz =>
            cases h
            refine ⟨⟨Nat.le_refl _, Nat.le_refl _⟩, fun ws tys H locs mls mst hn hK hR hP hD hS hxx hl' hst => ?_⟩
            obtain ⟨_, _, rfl, ⟨x, rfl, rfl⟩, rfl⟩ := hst
            exact (hret ws tys H locs mls pc hK hR hP hD hS hxx).1 x rfl (Or.inr ⟨hrt, hz⟩) hd
          · cases h
        · cases h
      · cases hno
        have hrt : ret = some .int := by simpa [zretok] using hr
        simp only [zstep] at h
        split at h
        · next z =>
          cases h
          refine ⟨⟨Nat.le_refl _, Nat.le_refl _⟩, fun ws tys H locs mls mst hn hK hR hP hD hS hxx hl' hst => ?_⟩
          obtain ⟨_, _, rfl, ⟨x, rfl, rfl⟩, rfl⟩ := hst
          exact (hret ws tys H locs mls pc hK hR hP hD hS hxx).1 x rfl (Or.inl hrt) hd
        · cases h
    | lreturn =>
      cases hno
      cases zln_eq (k := 1) hln rfl (Nat.succ_ne_zero _)
      subst hnx
      have hrt : ret = some .long := by simpa [zretok] using hr
      simp only [zstep] at h
      split at h
      · next z =>
        cases h
        refine ⟨⟨Nat.le_refl _, Nat.le_refl _⟩, fun ws tys H locs mls mst hn hK hR hP hD hS hxx hl' hst => ?_⟩
        obtain ⟨_, _, rfl, ⟨x, rfl, rfl⟩, rfl⟩ := hst
        exact (hret ws tys H locs mls pc hK hR hP hD hS hxx).2.1 x rfl hrt hd
      · cases h
    | areturn =>
      cases hno
      cases zln_eq (k := 1) hln rfl (Nat.succ_ne_zero _)
      subst hnx
      have hrt : ∃ n, ret = some (.object n) := by
        simp only [zretok] at hr
        split at hr
        · exact ⟨_, rfl⟩
        · cases hr
      simp only [zstep] at h
      split at h
      · next z =>
        cases h
        refine ⟨⟨Nat.le_refl _, Nat.le_refl _⟩, fun ws tys H locs mls mst hn hK hR hP hD hS hxx hl' hst => ?_⟩
        obtain ⟨w, _, rfl, hw, rfl⟩ := hst
        exact (hret ws tys H locs mls pc hK hR hP hD hS hxx).2.2.1 _ w rfl hw hrt hd
      · cases h
    | return_ =>
      cases hno
      cases zln_eq (k := 1) hln rfl (Nat.succ_ne_zero _)
      subst hnx
      have hrt : ret = none := by simpa [zretok] using hr
      simp only [zstep] at h
      split at h
      · cases h
        refine ⟨⟨Nat.le_refl _, Nat.le_refl _⟩, fun ws tys H locs mls mst hn hK hR hP hD hS hxx hl' hst => ?_⟩
        cases (show mst = [] from hst)
        exact (hret ws tys H locs mls pc hK hR hP hD hS hxx).2.2.2 rfl hrt hd
      · cases h
    | _ => exact absurd hno (by simp [znorm])
end ZSIM
end
section
/-! EVERY METHOD: its contract out of the small machine. -/
def zretoks (l : List zMt) (cs : List (List (Nat × (Instr × Nat)))) : Bool := (l.zip cs).all (fun q => q.2.all (fun e => zretok q.1.2.2.2.2.1 e.2.1))
theorem zretoks_0 : zretoks zM_0 zcs_0 = true := by decide +kernel
theorem zretoks_1 : zretoks zM_1 zcs_1 = true := by decide +kernel
theorem zretoks_2 : zretoks zM_2 zcs_2 = true := by decide +kernel
theorem zretoks_3 : zretoks zM_3 zcs_3 = true := by decide +kernel
theorem zretoks_4 : zretoks zM_4 zcs_4 = true := by decide +kernel
theorem zretoks_5 : zretoks zM_5 zcs_5 = true := by decide +kernel
theorem zretoks_6 : zretoks zM_6 zcs_6 = true := by decide +kernel
theorem zretoks_7 : zretoks zM_7 zcs_7 = true := by decide +kernel
theorem zretoks_8 : zretoks zM_8 zcs_8 = true := by decide +kernel
theorem zretoks_9 : zretoks zM_9 zcs_9 = true := by decide +kernel
theorem zgoods_app {a b : List zMt} {c d : List (List (Nat × (Instr × Nat)))} (h : a.length = c.length) (h1 : zgoods a c = true) (h2 : zgoods b d = true) : zgoods (a ++ b) (c ++ d) = true := by
  unfold zgoods at *
  rw [List.zip_append h, List.all_append, h1, h2]
  rfl
theorem zretoks_app {a b : List zMt} {c d : List (List (Nat × (Instr × Nat)))} (h : a.length = c.length) (h1 : zretoks a c = true) (h2 : zretoks b d = true) : zretoks (a ++ b) (c ++ d) = true := by
  unfold zretoks at *
  rw [List.zip_append h, List.all_append, h1, h2]
  rfl
theorem zgoods_ok : zgoods zM zcs = true := zgoods_app rfl zgoods_0 (zgoods_app rfl zgoods_1 (zgoods_app rfl zgoods_2 (zgoods_app rfl zgoods_3 (zgoods_app rfl zgoods_4 (zgoods_app rfl zgoods_5 (zgoods_app rfl zgoods_6 (zgoods_app rfl zgoods_7 (zgoods_app rfl zgoods_8 (zgoods_9)))))))))
theorem zretoks_ok : zretoks zM zcs = true := zretoks_app rfl zretoks_0 (zretoks_app rfl zretoks_1 (zretoks_app rfl zretoks_2 (zretoks_app rfl zretoks_3 (zretoks_app rfl zretoks_4 (zretoks_app rfl zretoks_5 (zretoks_app rfl zretoks_6 (zretoks_app rfl zretoks_7 (zretoks_app rfl zretoks_8 (zretoks_9)))))))))
def zP : zT := fun y => match zM[y]?, zcs[y]? with
  | some q, some c => some (q.2.2.2.1, c)
  | _, _ => none
theorem zP_get {y nl : Nat} {code : List (Nat × (Instr × Nat))} {q : zMt} (hq : zM[y]? = some q) (h : zP y = some (nl, code)) : nl = q.2.2.2.1 ∧ (∀ e ∈ code, zgood q.1 (zmode q) q.2.2.1 e = true) ∧ (∀ e ∈ code, zretok q.2.2.2.2.1 e.2.1 = true) := by
  unfold zP at h
  rw [hq] at h
  cases hc : zcs[y]? with
  | none => rw [hc] at h; cases h
  | some c0 =>
    rw [hc] at h
    cases h
    have hz : (zM.zip zcs)[y]? = some (q, code) := by
      rw [List.getElem?_zip_eq_some]
      exact ⟨hq, hc⟩
    refine ⟨rfl, fun e he => ?_, fun e he => ?_⟩
    · have h1 := List.all_eq_true.mp zgoods_ok _ (List.mem_of_getElem? hz)
      exact List.all_eq_true.mp h1 e he
    · have h1 := List.all_eq_true.mp zretoks_ok _ (List.mem_of_getElem? hz)
      exact List.all_eq_true.mp h1 e he
theorem zargs_sl {pa : Nat → Nat} {ws : va_W} : ∀ {as : List zV} {avs : List Value}, zSR pa ws as avs → (lg_sl avs).length = (zargs as).length ∧ ∀ (i : Nat) (v : zV), (zargs as)[i]? = some (some v) → ∃ w, zVR pa ws v w ∧ (lg_sl avs)[i]? = some (.val w)
  | [], avs, h => by
    rw [show avs = [] from h]
    exact ⟨rfl, fun i v hv => by simp [zargs] at hv⟩
  | v0 :: as, _, ⟨w0, avs, rfl, h1, h2⟩ => by
    obtain ⟨g1, g2⟩ := zargs_sl h2
    have hc := h1.cat
    have key : ∀ (a : zLoc) (b : List Slot), (∃ x, a = [some v0] ++ x ∧ b = [Slot.val w0] ++ (x.map (fun _ => Slot.second)) ∧ ∀ y ∈ x, y = none) → (a ++ zargs as).length = (b ++ lg_sl avs).length ∧ ∀ (i : Nat) (v : zV), (a ++ zargs as)[i]? = some (some v) → ∃ w, zVR pa ws v w ∧ (b ++ lg_sl avs)[i]? = some (.val w) := by
      rintro a b ⟨x, rfl, rfl, hx⟩
      refine ⟨by simp [g1], fun i v hv => ?_⟩
      cases i with
      | zero =>
        have e : v0 = v := by simpa using hv
        subst e
        exact ⟨w0, h1, by simp⟩
      | succ i =>
        have hv' : (x ++ zargs as)[i]? = some (some v) := by simpa using hv
        by_cases hi : i < x.length
        · rw [List.getElem?_append_left hi] at hv'
          have := hx _ (List.mem_of_getElem? hv')
          cases this
        · rw [List.getElem?_append_right (by omega)] at hv'
          obtain ⟨w, k1, k2⟩ := g2 _ _ hv'
          refine ⟨w, k1, ?_⟩
          have : ([Slot.val w0] ++ (x.map (fun _ => Slot.second)) ++ lg_sl avs)[i + 1]? = (x.map (fun _ => Slot.second) ++ lg_sl avs)[i]? := by simp
          rw [this, List.getElem?_append_right (by rw [List.length_map]; omega), List.length_map]
          exact k2
    have e1 : lg_sl (w0 :: avs) = (if w0.category = 2 then [Slot.val w0, Slot.second] else [Slot.val w0]) ++ lg_sl avs := rfl
    rw [e1]
    match v0, h1, hc, key with
    | .inl z, h1, hc, key =>
      have k := key [some (.inl z)] [Slot.val w0] ⟨[], rfl, rfl, fun y hy => by cases hy⟩
      rw [if_neg (by rw [hc]; exact (by decide : ¬ (1 : Nat) = 2))]
      exact ⟨k.1.symm, k.2⟩
    | .inr (.inl z), h1, hc, key =>
      have k := key [some (.inr (.inl z)), none] [Slot.val w0, Slot.second] ⟨[none], rfl, rfl, fun y hy => by simpa using hy⟩
      rw [if_pos (by rw [hc]; rfl)]
      exact ⟨k.1.symm, k.2⟩
    | .inr (.inr z), h1, hc, key =>
      have k := key [some (.inr (.inr z))] [Slot.val w0] ⟨[], rfl, rfl, fun y hy => by cases hy⟩
      rw [if_neg (by rw [hc]; exact (by decide : ¬ (1 : Nat) = 2))]
      exact ⟨k.1.symm, k.2⟩
theorem zinit_len {as : List zV} {nl : Nat} (h : (zargs as).length ≤ nl) : (zinit as nl).length = nl := by
  unfold zinit
  rw [List.length_append, List.length_replicate]
  omega
theorem zLR_init {pa : Nat → Nat} {ws : va_W} {as : List zV} {avs : List Value} {nl : Nat} (h : zSR pa ws as avs) (hl : (zargs as).length ≤ nl) : zLR pa ws (zinit as nl) ((lg_sl avs ++ List.replicate (nl - (lg_sl avs).length) Slot.unset).toArray) := by
  obtain ⟨g1, g2⟩ := zargs_sl h
  have hv := lv_entry avs (n := nl) (by rw [g1]; exact hl)
  refine ⟨by rw [hv.1, zinit_len hl], hv.2.1, fun i v hi => ?_⟩
  unfold zinit at hi
  by_cases hlt : i < (zargs as).length
  · rw [List.getElem?_append_left hlt] at hi
    obtain ⟨w, k1, k2⟩ := g2 i v hi
    refine ⟨w, k1, ?_⟩
    rw [List.getElem?_toArray, List.getElem?_append_left (by rw [g1]; exact hlt)]
    exact k2
  · rw [List.getElem?_append_right (by omega)] at hi
    have := List.eq_of_mem_replicate (List.mem_of_getElem? hi)
    cases this
/-- every method of the small machine is a method of the machine -/
theorem zmet_all {l : Launch} {D : va_G} {A : Nat → Prop} {pa : Nat → Nat} {X : zX} {adV : Nat → Nat} (hstr : zStrOK l A pa X adV) : ∀ d, zMet l D A pa X adV zP d := by
  intro d
  induction d with
  | zero => intro y q as σ r ws hq h; cases h
  | succ d ih =>
    intro y q as σ r ws hq hc
    obtain ⟨nl, code, n, hP0, hlen, hn⟩ := zcal_get hc
    obtain ⟨rfl, hcode, hro⟩ := zP_get hq hP0
    have hF := zM_get hq
    obtain ⟨f1, f2, f3, f4, f5, f6, f7, f8, f9⟩ := hF
    refine Met.ofW (cc := q.2.2.1) (maxL := q.2.2.2.1) (ret := q.2.2.2.2.1) f6 rfl ?_
    intro p e s m args below meth c s₁ B hml hv
    obtain ⟨⟨avs, rfl, hs⟩, ⟨tys, hK, hR⟩, hP, hD, hA, henv⟩ := hv
    have hx := B.exec
    have hb := B.bytes
    have hr := B.returns
    have hlk := B.notSynchronized
    have hts := atoms_spec (ws := zws q) B.pre
    have hown : s.vm.findClass (znm q.1) = some m.cls := by rw [f2]; exact findClass_of_methodNamed B.named
    have hinit : zmode q = 2 → meth.name = "<init>" := by
      intro h2
      have h3 : q.2.2.2.2.2.2.1 = 2 := by
        unfold zmode at h2
        split at h2
        · cases h2
        · split at h2
          · assumption
          · cases h2
      rw [← (f9 h3).1]
      exact (name_of_methodNamed B.named B.method).1
    rw [lg_entry_eq]
    have hl := zLR_init (nl := q.2.2.2.1) hs hlen
    generalize (lg_sl avs ++ List.replicate (q.2.2.2.1 - (lg_sl avs).length) Slot.unset).toArray = mls at hl
    have hret : zRets p l e (headSpec (zws q) (zrm (d + 1) (r.2.2.2.2.1 - σ.2.2.2.1) (r.2.2.2.2.2 - σ.2.2.2.2))).room s m avs.toArray below meth c q.2.2.1 (MQ below (zQc D A pa ws r) avs.toArray s (r.2.2.2.2.1 - σ.2.2.2.1) (r.2.2.2.2.2 - σ.2.2.2.2) A) D A pa ws σ r.2 r.1 q.2.2.2.2.1 := by
      intro ws' tys' H locs mls' pc hK' hR' hP' hD' hS' hxx'
      have post : ∀ (v : Option Value), zVO pa ws' r.1 v → ∀ t : State, t.heap = H → s.WarmedH t.vm → zQc D A pa ws r avs.toArray s (.returned v) t := by
        intro v hvo t ht hW
        exact ⟨v, ws', tys', rfl, hvo, va_K.moved hW.alike hK', hR', by rw [ht]; exact hP', hD', hxx', hS'.F ht⟩
      refine ⟨fun x hx1 hty hd => ?_, fun x hx1 hty hd => ?_, fun z w hz hw hty hd => ?_, fun hn0 hty hd => ?_⟩
      · rcases hty with hty | ⟨hty, hbool⟩
        · exact W.iret (v := x) hx hb (hr.trans hty) (post _ (by rw [hx1]; exact ⟨x, rfl, rfl⟩)) hS'.2.2 hd
        · exact W.zret (v := x) (ty := .boolean) hx hb (hr.trans hty) (zn_bool hbool).1 (post _ (by rw [hx1]; exact ⟨x, rfl, rfl⟩)) hS'.2.2 hd
      · exact W.lret (v := x) hx hb (hr.trans hty) (post _ (by rw [hx1]; exact ⟨x, rfl, rfl⟩)) hS'.2.2 hd
      · obtain ⟨nm, hnm⟩ := hty
        exact W.aret (v := w) (rt := .object nm) hx hb (hr.trans hnm) (Or.inl ⟨nm, rfl⟩) hw.ref (post _ (by rw [hz]; exact hw)) hS'.2.2 hd
      · exact W.vret hx hb (hr.trans hty) (post _ (by rw [hn0]; trivial)) hS'.2.2 hd
    have hz := zsim (ret := q.2.2.2.2.1) (ws0 := ws) (σ0 := σ) (rf := r.2) (rv := r.1) (P := zP) (md := zmode q) (d := d) (own := q.1) hx hb hown hml hts (fun w hw => List.mem_cons_of_mem _ hw) henv hA hstr ih hcode hro hinit (Nat.le_refl _) (Nat.le_refl _) (Nat.le_refl _) (Nat.le_refl _) hret n 0 (zinit as q.2.2.2.1) [] σ (zinit_len hlen) hn
    have h1 := hz.2 ws tys s.heap [] mls [] ⟨Nat.le_refl _, Nat.le_refl _⟩ hK hR hP hD va_S.rf (zext.refl ws) hl rfl
    rw [Nat.sub_self, Nat.sub_self] at h1
    exact h1
end
section
/-! THE TEXTS' MEMBERS: length and charAt of a constant text, walked by hand. -/
def zyCod : MethodName := ⟨"java/lang/String", "coder", "()B"⟩
def zyLat : MethodName := ⟨"java/lang/String", "isLatin1", "()Z"⟩
def zyLch : MethodName := ⟨"java/lang/StringLatin1", "charAt", "([BI)C"⟩
def zyChk : MethodName := ⟨"java/lang/String", "checkIndex", "(II)V"⟩
def zyPre : MethodName := ⟨"jdk/internal/util/Preconditions", "checkIndex", "(IILjava/util/function/BiFunction;)I"⟩
def zjrm (k : Nat) : Room := { frames := k, cells := 0, slots := 0, locals := 30 * k }
def zJPc (A : Nat → Prop) (pa : Nat → Nat) (X : zX) (adV : Nat → Nat) (as : List Value) : Array Value → State → Prop := fun v U => v = as.toArray ∧ zEnv A pa X adV U
def zJQ (o0 : Option Value → Prop) : Array Value → State → Outcome → State → Prop := fun _ st o t => ∃ v, o0 v ∧ o = .returned v ∧ t.heap = st.heap
theorem zJPc_blind {A : Nat → Prop} {pa : Nat → Nat} {X : zX} {adV : Nat → Nat} {as : List Value} : FrameBlind (zJPc A pa X adV as) := by
  intro a U g mk ⟨h1, h3⟩
  exact ⟨h1, h3.same rfl rfl⟩
theorem zj_words : Cond.instanceMethod zyCod ∈ lw_tbl ∧ Cond.selects zyCod.cls zyCod zyCod ∈ lw_tbl ∧ Cond.code zyCod prog_14_method_152_code 1 (some .byte) ∈ lw_tbl ∧ Cond.methodLink "java/lang/String" 335 zyCod ∈ lw_tbl ∧
    Cond.instanceMethod zyLat ∈ lw_tbl ∧ Cond.selects zyLat.cls zyLat zyLat ∈ lw_tbl ∧ Cond.code zyLat prog_14_method_154_code 1 (some .boolean) ∈ lw_tbl ∧ Cond.methodLink "java/lang/String" 492 zyLat ∈ lw_tbl ∧
    Cond.static zyLch ∈ lw_tbl ∧ Cond.code zyLch prog_15_method_2_code 2 (some .char) ∈ lw_tbl ∧ Cond.methodLink "java/lang/String" 495 zyLch ∈ lw_tbl ∧ Cond.initialized "java/lang/StringLatin1" ∈ lw_tbl ∧
    Cond.static zyChk ∈ lw_tbl ∧ Cond.code zyChk prog_14_method_155_code 2 none ∈ lw_tbl ∧ Cond.methodLink "java/lang/StringLatin1" 9 zyChk ∈ lw_tbl ∧
    Cond.static zyPre ∈ lw_tbl ∧ Cond.code zyPre prog_18_method_11_code 3 (some .int) ∈ lw_tbl ∧ Cond.methodLink "java/lang/String" 1059 zyPre ∈ lw_tbl ∧ Cond.initialized "jdk/internal/util/Preconditions" ∈ lw_tbl ∧
    Cond.fieldLink "java/lang/String" 38 "java/lang/String" "COMPACT_STRINGS" "Z" ∈ lw_tbl ∧ Cond.fieldLink "java/lang/String" 1053 "jdk/internal/util/Preconditions" "SIOOBE_FORMATTER" "Ljava/util/function/BiFunction;" ∈ lw_tbl ∧ Cond.fieldLink "java/lang/String" 9 "java/lang/String" "value" "[B" ∈ lw_tbl ∧ Cond.fieldLink "java/lang/String" 15 "java/lang/String" "coder" "B" ∈ lw_tbl ∧
    Cond.code zyLen prog_14_method_54_code 1 (some .int) ∈ lw_tbl ∧ Cond.code zyChr prog_14_method_56_code 2 (some .char) ∈ lw_tbl ∧ Cond.initialized "java/lang/String" ∈ lw_tbl := by
  refine ⟨?_, ?_, ?_, ?_, ?_, ?_, ?_, ?_, ?_, ?_, ?_, ?_, ?_, ?_, ?_, ?_, ?_, ?_, ?_, ?_, ?_, ?_, ?_, ?_, ?_, ?_⟩ <;> decide +kernel
section ZJ
variable {p : Program} {l : Launch} {e : Env} {R : Room} {s : State} {m : MethodId} {args : Array Value} {below : List Frame} {meth : Method} {c : Code} {cc : ByteArray} {Q : State → Prop} {D : va_G} {A : Nat → Prop} {pa : Nat → Nat} {ws0 : va_W} {σ0 rf : zMem}
variable {pc nL i j k ml : Nat} {X : zX} {adV : Nat → Nat} {own : String} {y : MethodName} {b : ByteArray} {ret : Option FieldType} {as : List Value} {mls : Array Slot} {rest : List Value} {o0 : Option Value → Prop} {Ts : List Cond}
theorem zj_good (hBT : ∀ w ∈ zBig, w ∈ Ts) (hco : Cond.code y b ml ret ∈ lw_tbl) (lw : List Cond) (h : ∀ w ∈ lw, w ∈ lw_tbl ∧ goodWord w = true) : GoodIn Ts (lw ++ (Cond.code y b ml ret :: zBig)) := by
  intro w hw
  rcases List.mem_append.mp hw with h1 | h1
  · exact ⟨hBT _ (zBig_in (h w h1).1 (h w h1).2), good_of_word (h w h1).2⟩
  · rcases List.mem_cons.mp h1 with rfl | h2
    · exact ⟨hBT _ (zBig_in hco rfl), good_of_word rfl⟩
    · exact ⟨hBT _ h2, good_of_word (List.mem_filter.mp h2).2⟩
theorem zjV (hx : p.tables.exec = Jvm.exec) (hb : c.code = cc) (hown : s.vm.findClass own = some m.cls) (hml : c.maxLocals = nL) (hsz : mls.size = nL) (hts : ∀ w ∈ Ts, w.before args s = true) (hBT : ∀ w ∈ zBig, w ∈ Ts) (henv : zEnv A pa X adV s) (hj : j < 15) (hy : y.cls = "java/lang/String") (hin : Cond.instanceMethod y ∈ lw_tbl) (hse : Cond.selects y.cls y y ∈ lw_tbl) (hco : Cond.code y b ml ret ∈ lw_tbl) (hml3 : ml ≤ 3) (hpar : (parseMethodDescriptor y.desc).map (fun d => d.parameters.length) = some as.length) (hM : Met l y (Cond.code y b ml ret :: zBig) (zjrm k) (zJPc A pa X adV (.ref (pa (4 + j)) :: as)) (zJQ o0) 0 0 (fun _ => False)) (hlk : Cond.methodLink own i y ∈ lw_tbl) (hfr : k + 1 ≤ R.frames) (hlo : 30 * k + 22 ≤ R.locals) (hsum : (rest.map fun v => v.category).sum ≤ 8) (hd : decode cc pc = .ok (.invokevirtual i, 3))
    (kk : ∀ v : Option Value, o0 v → W p l e R s m args below meth c s.heap [] 0 0 Q (F0 m (pc + 3) mls (v.toList ++ rest))) : W p l e R s m args below meth c s.heap [] 0 0 Q (F0 m pc mls (as.reverse ++ .ref (pa (4 + j)) :: rest)) := by
  have hS : va_S A s.heap s.heap [] := va_S.rf
  have hrcv := vk_recv henv.2.2.2.2.2.2.1 hj hS
  refine zcall_go (va_runV (nL := nL) (n := as.length) (C := y.cls) (rest := rest) ⟨hx, hb, hml, hown, hts⟩ hM (cwV as.length hts (zj_good hBT hco [.methodLink own i y, .instanceMethod y, .selects y.cls y y, .initialized y.cls] (fun w hw => by
    rcases List.mem_cons.mp hw with rfl | hw
    · exact ⟨hlk, rfl⟩
    rcases List.mem_cons.mp hw with rfl | hw
    · exact ⟨hin, rfl⟩
    rcases List.mem_cons.mp hw with rfl | hw
    · exact ⟨hse, rfl⟩
    rcases List.mem_cons.mp hw with rfl | hw
    · rw [hy]; exact ⟨zstr_words.2.2.2.2, rfl⟩
    · cases hw)) rfl rfl rfl ⟨rfl, by rw [hy]; decide, by rw [hy]; decide, hpar⟩ ⟨hfr, by show 8 + (ml + 11) + 30 * k ≤ _; omega⟩) ⟨zJPc_blind, by rw [hy]; exact hrcv, fun U hU hW => ⟨rfl, henv.next hS hU hW⟩⟩ rfl rfl hsz rfl (lv_room hsum) hd ⟨Nat.zero_le _, Nat.zero_le _⟩) (fun v st₀ t H1 L h0 ht hvm hq hloc => ?_)
  obtain ⟨v', hz, hv, hh⟩ := hq
  cases hv
  have hL : L = [] := List.eq_nil_iff_forall_not_mem.mpr (fun q hq => hloc q hq)
  subst hL
  have e : H1 = s.heap := by rw [← ht, hh, h0]
  subst e
  exact kk _ hz
theorem zjS (hx : p.tables.exec = Jvm.exec) (hb : c.code = cc) (hown : s.vm.findClass own = some m.cls) (hml : c.maxLocals = nL) (hsz : mls.size = nL) (hts : ∀ w ∈ Ts, w.before args s = true) (hBT : ∀ w ∈ zBig, w ∈ Ts) (henv : zEnv A pa X adV s) (hne : y.cls ≠ "java/lang/invoke/MethodHandle" ∧ y.cls ≠ "java/lang/invoke/VarHandle") (hin : Cond.static y ∈ lw_tbl) (hini : Cond.initialized y.cls ∈ lw_tbl) (hco : Cond.code y b ml ret ∈ lw_tbl) (hml3 : ml ≤ 3) (hpar : (parseMethodDescriptor y.desc).map (fun d => d.parameters.length) = some as.length) (hM : Met l y (Cond.code y b ml ret :: zBig) (zjrm k) (zJPc A pa X adV as) (zJQ o0) 0 0 (fun _ => False)) (hlk : Cond.methodLink own i y ∈ lw_tbl) (hfr : k + 1 ≤ R.frames) (hlo : 30 * k + 22 ≤ R.locals) (hsum : (rest.map fun v => v.category).sum ≤ 8) (hd : decode cc pc = .ok (.invokestatic i, 3))
    (kk : ∀ v : Option Value, o0 v → W p l e R s m args below meth c s.heap [] 0 0 Q (F0 m (pc + 3) mls (v.toList ++ rest))) : W p l e R s m args below meth c s.heap [] 0 0 Q (F0 m pc mls (as.reverse ++ rest)) := by
  have hS : va_S A s.heap s.heap [] := va_S.rf
  refine zcall_go (va_runS (nL := nL) (n := as.length) (rest := rest) ⟨hx, hb, hml, hown, hts⟩ hM (va_cwS as.length hts (zj_good hBT hco [.methodLink own i y, .static y, .initialized y.cls] (fun w hw => by
    rcases List.mem_cons.mp hw with rfl | hw
    · exact ⟨hlk, rfl⟩
    rcases List.mem_cons.mp hw with rfl | hw
    · exact ⟨hin, rfl⟩
    rcases List.mem_cons.mp hw with rfl | hw
    · exact ⟨hini, rfl⟩
    · cases hw)) rfl rfl rfl ⟨hne.1, hne.2, hpar⟩ ⟨hfr, by show 8 + (ml + 11) + 30 * k ≤ _; omega⟩) ⟨zJPc_blind, fun U hU hW => ⟨rfl, henv.next hS hU hW⟩⟩ rfl rfl hsz rfl (lv_room hsum) hd ⟨Nat.zero_le _, Nat.zero_le _⟩) (fun v st₀ t H1 L h0 ht hvm hq hloc => ?_)
  obtain ⟨v', hz, hv, hh⟩ := hq
  cases hv
  have hL : L = [] := List.eq_nil_iff_forall_not_mem.mpr (fun q hq => hloc q hq)
  subst hL
  have e : H1 = s.heap := by rw [← ht, hh, h0]
  subst e
  exact kk _ hz
end ZJ
theorem zchars_ok : ∀ j, j < 15 → (zchars (j + 4)).length < 256 ∧ ∀ k, k < (zchars (j + 4)).length → (((zchars (j + 4)).getD k 0 &&& 255).toUInt32 % 65536).toInt32 = (zchars (j + 4)).getD k 0 ∧ narrow .char (.int ((zchars (j + 4)).getD k 0)) = .int ((zchars (j + 4)).getD k 0) := by decide +kernel
theorem zch_len {j : Nat} (hj : j < 15) : ((List.range 15).map (fun i => (zchars (i + 4)).length)).getD j 0 = (zchars (j + 4)).length := by
  rw [List.getD_eq_getElem?_getD, List.getElem?_map, List.getElem?_range hj]
  rfl
theorem zch_get {j : Nat} (hj : j < 15) : ((List.range 15).map (fun i => zchars (i + 4))).getD j [] = zchars (j + 4) := by
  rw [List.getD_eq_getElem?_getD, List.getElem?_map, List.getElem?_range hj]
  rfl
theorem zclt {i : Int32} {n : Nat} (h1 : 0 ≤ i.toInt) (h2 : i.toInt < n) : i.toNatClampNeg < n := by
  have e1 : i.toNatClampNeg = i.toInt.toNat := rfl
  omega
section ZJC
variable {A : Nat → Prop} {pa : Nat → Nat} {X : zX} {adV : Nat → Nat}
set_option maxRecDepth 20000 in
theorem zc_pre (l : Launch) (i n : Int32) (hi : 0 ≤ i.toInt) (hn : i.toInt < n.toInt) (r : Value) (hr : r = .null ∨ ∃ a, r = .ref a) : Met l zyPre (Cond.code zyPre prog_18_method_11_code 3 (some .int) :: zBig) (zjrm 0) (zJPc A pa X adV [.int i, .int n, r]) (zJQ (fun v => v = some (.int i))) 0 0 (fun _ => False) := by
  refine Met.ofW (cc := prog_18_method_11_code) (maxL := 3) (ret := some .int) (by decide) rfl ?_
  intro p e s m args below meth c s₁ B hml hv
  obtain ⟨rfl, henv⟩ := hv
  have hx := B.exec
  have hb := B.bytes
  have hrt := B.returns
  have hlocks := B.notSynchronized
  rw [lg_entry_eq]
  have hcat : r.category = 1 := by rcases hr with rfl | ⟨a, rfl⟩ <;> rfl
  have e1 : lg_sl [.int i, .int n, r] = [.val (.int i), .val (.int n), .val r] := by
    show ([Slot.val (.int i)] ++ ([Slot.val (.int n)] ++ ((if r.category = 2 then [Slot.val r, Slot.second] else [Slot.val r]) ++ []))) = _
    rw [hcat]
    rfl
  have hl := lv_entry [.int i, .int n, r] (n := 3) (by rw [e1]; exact Nat.le_refl 3)
  generalize (lg_sl [.int i, .int n, r] ++ List.replicate (3 - (lg_sl [.int i, .int n, r]).length) Slot.unset).toArray = ls at hl ⊢
  have h0 : ls[0]? = some (.val (.int i)) := hl.2.2 (0, .int i) (by simp [lv_args])
  have h1 : ls[1]? = some (.val (.int n)) := hl.2.2 (1, .int n) (by simp [lv_args, Value.category])
  refine lv_iload_n hx hb (show decode prog_18_method_11_code 0 = .ok (.iload_n 0, 1) by decide +kernel) rfl h0 ?_
  refine lv_if_lt (tgt := 9) hx hb (show decode prog_18_method_11_code 1 = .ok (.ifCond .lt 8, 3) by decide +kernel) (by decide) (fun q => absurd ((zn_lt0 i).mp q) (by omega)) (fun _ => ?_)
  refine lv_iload_n hx hb (show decode prog_18_method_11_code 4 = .ok (.iload_n 0, 1) by decide +kernel) rfl h0 ?_
  refine lv_iload_n hx hb (show decode prog_18_method_11_code 5 = .ok (.iload_n 1, 1) by decide +kernel) rfl h1 ?_
  refine lv_icmp_lt (tgt := 16) hx hb (show decode prog_18_method_11_code 6 = .ok (.if_icmp .lt 10, 3) by decide +kernel) (by decide) (fun _ => ?_) (fun q => absurd ((zn_lt i n).mpr hn) q)
  refine lv_iload_n hx hb (show decode prog_18_method_11_code 16 = .ok (.iload_n 0, 1) by decide +kernel) rfl h0 ?_
  exact W.iret (v := i) hx hb hrt (fun t ht hW => ⟨_, rfl, rfl, ht⟩) (fun q hq => by cases hq) (show decode prog_18_method_11_code 17 = .ok (.ireturn, 1) by decide +kernel)
set_option maxRecDepth 20000 in
theorem zc_chk (l : Launch) (i n : Int32) (hi : 0 ≤ i.toInt) (hn : i.toInt < n.toInt) : Met l zyChk (Cond.code zyChk prog_14_method_155_code 2 none :: zBig) (zjrm 1) (zJPc A pa X adV [.int i, .int n]) (zJQ (fun v => v = none)) 0 0 (fun _ => False) := by
  obtain ⟨-, -, -, -, -, -, -, -, -, -, -, -, -, -, -, w16, w17, w18, w19, -, w21, -⟩ := zj_words
  refine Met.ofW (cc := prog_14_method_155_code) (maxL := 2) (ret := none) (by decide) rfl ?_
  intro p e s m args below meth c s₁ B hml hv
  obtain ⟨rfl, henv⟩ := hv
  have hx := B.exec
  have hb := B.bytes
  have hrt := B.returns
  have hlocks := B.notSynchronized
  have hts := atoms_spec (ws := Cond.code zyChk prog_14_method_155_code 2 none :: zBig) B.pre
  have hown : s.vm.findClass "java/lang/String" = some m.cls := findClass_of_methodNamed B.named
  have hS : va_S A s.heap s.heap [] := va_S.rf
  rw [lg_entry_eq]
  have hl := lv_entry [.int i, .int n] (n := 2) (Nat.le_of_ble_eq_true rfl)
  generalize (lg_sl [.int i, .int n] ++ List.replicate (2 - (lg_sl [.int i, .int n]).length) Slot.unset).toArray = ls at hl ⊢
  have hl : lv_has ls 2 [(0, .int i), (1, .int n)] := hl
  refine lv_iload_n hx hb (show decode prog_14_method_155_code 0 = .ok (.iload_n 0, 1) by decide +kernel) rfl (lv_at hl 0 rfl) ?_
  refine lv_iload_n hx hb (show decode prog_14_method_155_code 1 = .ok (.iload_n 1, 1) by decide +kernel) rfl (lv_at hl 1 rfl) ?_
  have go : ∀ r : Value, (r = .null ∨ ∃ a, r = .ref a) → va_Z "jdk/internal/util/Preconditions" "SIOOBE_FORMATTER" "Ljava/util/function/BiFunction;" r A s s.heap → W p l e (headSpec (Cond.code zyChk prog_14_method_155_code 2 none :: zBig) (zjrm 1)).room s m ([.int i, .int n] : List Value).toArray below meth c s.heap [] 0 0 (MQ below (zJQ (fun v => v = none)) ([.int i, .int n] : List Value).toArray s 0 0 (fun _ => False)) (F0 m 2 ls [.int n, .int i]) := by
    intro r hr hZ
    refine va_gets hx hb hZ hS hown (hts _ (List.mem_cons_of_mem _ (zBig_in w21 rfl))) (fun _ h => h) (show decode prog_14_method_155_code 2 = .ok (.getstatic 1053, 3) by decide +kernel) ?_
    refine zjS (as := [.int i, .int n, r]) (rest := []) hx hb hown hml hl.1 hts (fun w hw => List.mem_cons_of_mem _ hw) henv (by decide) w16 w19 w17 (by decide) (show _ = some 3 by decide +kernel) (zc_pre l i n hi hn r hr) w18 (Nat.le_refl _) (by decide) (by decide) (show decode prog_14_method_155_code 5 = .ok (.invokestatic 1059, 3) by decide +kernel) (fun v hv => ?_)
    subst hv
    refine lv_pop hx hb (show decode prog_14_method_155_code 8 = .ok (.pop, 1) by decide +kernel) rfl ?_
    exact W.vret hx hb hrt (fun t ht hW => ⟨_, rfl, rfl, ht⟩) (fun q hq => by cases hq) (show decode prog_14_method_155_code 9 = .ok (.return_, 1) by decide +kernel)
  rcases henv.2.2.2.2.2.1.2 with hZ | ⟨t, hZ⟩
  · exact go _ (Or.inl rfl) hZ
  · exact go _ (Or.inr ⟨t, rfl⟩) hZ
set_option maxRecDepth 20000 in
theorem zc_lch (l : Launch) (j : Nat) (hj : j < 15) (i : Int32) (hi : 0 ≤ i.toInt) (hn : i.toInt < (zchars (j + 4)).length) : Met l zyLch (Cond.code zyLch prog_15_method_2_code 2 (some .char) :: zBig) (zjrm 2) (zJPc A pa X adV [.ref (adV j), .int i]) (zJQ (fun v => v = some (.int ((zchars (j + 4)).getD i.toNatClampNeg 0)))) 0 0 (fun _ => False) := by
  obtain ⟨-, -, -, -, -, -, -, -, -, -, -, -, w13, w14, w15, -, -, -, -, -, -, -, -, -, -, w26⟩ := zj_words
  obtain ⟨hsm, hall⟩ := zchars_ok j hj
  refine Met.ofW (cc := prog_15_method_2_code) (maxL := 2) (ret := some .char) (by decide) rfl ?_
  intro p e s m args below meth c s₁ B hml hv
  obtain ⟨rfl, henv⟩ := hv
  have hx := B.exec
  have hb := B.bytes
  have hrt := B.returns
  have hlocks := B.notSynchronized
  have hts := atoms_spec (ws := Cond.code zyLch prog_15_method_2_code 2 (some .char) :: zBig) B.pre
  have hown : s.vm.findClass "java/lang/StringLatin1" = some m.cls := findClass_of_methodNamed B.named
  have hS : va_S A s.heap s.heap [] := va_S.rf
  have hT := (henv.2.2.2.2.2.2.1.1 j hj).2.2.2
  rw [zch_len hj, zch_get hj] at hT
  rw [lg_entry_eq]
  have hl := lv_entry [.ref (adV j), .int i] (n := 2) (Nat.le_of_ble_eq_true rfl)
  generalize (lg_sl [.ref (adV j), .int i] ++ List.replicate (2 - (lg_sl [.ref (adV j), .int i]).length) Slot.unset).toArray = ls at hl ⊢
  have hl : lv_has ls 2 [(0, .ref (adV j)), (1, .int i)] := hl
  have hlen : (Int32.ofNat (zchars (j + 4)).length).toInt = (zchars (j + 4)).length := zn_ofNat (by omega)
  refine lv_iload_n hx hb (show decode prog_15_method_2_code 0 = .ok (.iload_n 1, 1) by decide +kernel) rfl (lv_at hl 1 rfl) ?_
  refine lv_aload_n hx hb (show decode prog_15_method_2_code 1 = .ok (.aload_n 0, 1) by decide +kernel) rfl (lv_at hl 0 rfl) ?_
  refine va_tlen hx hb hT hS rfl (show decode prog_15_method_2_code 2 = .ok (.arraylength, 1) by decide +kernel) ?_
  refine zjS (as := [.int i, .int (Int32.ofNat (zchars (j + 4)).length)]) (rest := []) hx hb hown hml hl.1 hts (fun w hw => List.mem_cons_of_mem _ hw) henv (by decide) w13 w26 w14 (by decide) (show _ = some 2 by decide +kernel) (zc_chk l i _ hi (by rw [hlen]; exact hn)) w15 (Nat.le_refl _) (by decide) (by decide) (show decode prog_15_method_2_code 3 = .ok (.invokestatic 9, 3) by decide +kernel) (fun v hv => ?_)
  subst hv
  refine lv_aload_n hx hb (show decode prog_15_method_2_code 6 = .ok (.aload_n 0, 1) by decide +kernel) rfl (lv_at hl 0 rfl) ?_
  refine lv_iload_n hx hb (show decode prog_15_method_2_code 7 = .ok (.iload_n 1, 1) by decide +kernel) rfl (lv_at hl 1 rfl) ?_
  refine va_tb hx hb hT hS (zn_vpin hi hn) rfl (show decode prog_15_method_2_code 8 = .ok (.baload, 1) by decide +kernel) ?_
  refine lv_sipush (v := 255) hx hb (show decode prog_15_method_2_code 9 = .ok (.sipush 255, 3) by decide +kernel) (by decide) ?_
  refine lv_iand hx hb (show decode prog_15_method_2_code 12 = .ok (.iand, 1) by decide +kernel) ?_
  obtain ⟨k1, k2⟩ := hall i.toNatClampNeg (zclt hi hn)
  refine lv_i2c hx hb (show decode prog_15_method_2_code 13 = .ok (.i2c, 1) by decide +kernel) k1 ?_
  exact W.zret (ty := .char) hx hb hrt k2 (fun t ht hW => ⟨_, rfl, rfl, ht⟩) (fun q hq => by cases hq) (show decode prog_15_method_2_code 14 = .ok (.ireturn, 1) by decide +kernel)
set_option maxRecDepth 20000 in
theorem zc_cod (l : Launch) (j : Nat) (hj : j < 15) : Met l zyCod (Cond.code zyCod prog_14_method_152_code 1 (some .byte) :: zBig) (zjrm 0) (zJPc A pa X adV [.ref (pa (4 + j))]) (zJQ (fun v => v = some (.int 0))) 0 0 (fun _ => False) := by
  obtain ⟨-, -, -, -, -, -, -, -, -, -, -, -, -, -, -, -, -, -, -, w20, -, -, w23, -⟩ := zj_words
  refine Met.ofW (cc := prog_14_method_152_code) (maxL := 1) (ret := some .byte) (by decide) rfl ?_
  intro p e s m args below meth c s₁ B hml hv
  obtain ⟨rfl, henv⟩ := hv
  have hx := B.exec
  have hb := B.bytes
  have hrt := B.returns
  have hlocks := B.notSynchronized
  have hts := atoms_spec (ws := Cond.code zyCod prog_14_method_152_code 1 (some .byte) :: zBig) B.pre
  have hown : s.vm.findClass "java/lang/String" = some m.cls := findClass_of_methodNamed B.named
  have hS : va_S A s.heap s.heap [] := va_S.rf
  rw [lg_entry_eq]
  have hl := lv_entry [.ref (pa (4 + j))] (n := 1) (Nat.le_of_ble_eq_true rfl)
  generalize (lg_sl [.ref (pa (4 + j))] ++ List.replicate (1 - (lg_sl [.ref (pa (4 + j))]).length) Slot.unset).toArray = ls at hl ⊢
  have hl : lv_has ls 1 [(0, .ref (pa (4 + j)))] := hl
  refine va_gets hx hb henv.2.2.2.2.2.1.1 hS hown (hts _ (List.mem_cons_of_mem _ (zBig_in w20 rfl))) (fun _ h => h) (show decode prog_14_method_152_code 0 = .ok (.getstatic 38, 3) by decide +kernel) ?_
  refine lv_if_eq (tgt := 13) hx hb (show decode prog_14_method_152_code 3 = .ok (.ifCond .eq 10, 3) by decide +kernel) (by decide) (fun q => absurd q (by decide)) (fun _ => ?_)
  refine lv_aload_n hx hb (show decode prog_14_method_152_code 6 = .ok (.aload_n 0, 1) by decide +kernel) rfl (lv_at hl 0 rfl) ?_
  refine vk_getf hx hb (henv.2.2.2.2.2.2.1.1 j hj).2.1 hS hown (hts _ (List.mem_cons_of_mem _ (zBig_in w23 rfl))) (fun _ h => h) (show decode prog_14_method_152_code 7 = .ok (.getfield 15, 3) by decide +kernel) ?_
  refine lv_goto (tgt := 14) hx hb (show decode prog_14_method_152_code 10 = .ok (.goto 4, 3) by decide +kernel) (by decide) ?_
  exact W.zret (ty := .byte) hx hb hrt rfl (fun t ht hW => ⟨_, rfl, rfl, ht⟩) (fun q hq => by cases hq) (show decode prog_14_method_152_code 14 = .ok (.ireturn, 1) by decide +kernel)
set_option maxRecDepth 20000 in
theorem zc_lat (l : Launch) (j : Nat) (hj : j < 15) : Met l zyLat (Cond.code zyLat prog_14_method_154_code 1 (some .boolean) :: zBig) (zjrm 0) (zJPc A pa X adV [.ref (pa (4 + j))]) (zJQ (fun v => v = some (.int 1))) 0 0 (fun _ => False) := by
  obtain ⟨-, -, -, -, -, -, -, -, -, -, -, -, -, -, -, -, -, -, -, w20, -, -, w23, -⟩ := zj_words
  refine Met.ofW (cc := prog_14_method_154_code) (maxL := 1) (ret := some .boolean) (by decide) rfl ?_
  intro p e s m args below meth c s₁ B hml hv
  obtain ⟨rfl, henv⟩ := hv
  have hx := B.exec
  have hb := B.bytes
  have hrt := B.returns
  have hlocks := B.notSynchronized
  have hts := atoms_spec (ws := Cond.code zyLat prog_14_method_154_code 1 (some .boolean) :: zBig) B.pre
  have hown : s.vm.findClass "java/lang/String" = some m.cls := findClass_of_methodNamed B.named
  have hS : va_S A s.heap s.heap [] := va_S.rf
  rw [lg_entry_eq]
  have hl := lv_entry [.ref (pa (4 + j))] (n := 1) (Nat.le_of_ble_eq_true rfl)
  generalize (lg_sl [.ref (pa (4 + j))] ++ List.replicate (1 - (lg_sl [.ref (pa (4 + j))]).length) Slot.unset).toArray = ls at hl ⊢
  have hl : lv_has ls 1 [(0, .ref (pa (4 + j)))] := hl
  refine va_gets hx hb henv.2.2.2.2.2.1.1 hS hown (hts _ (List.mem_cons_of_mem _ (zBig_in w20 rfl))) (fun _ h => h) (show decode prog_14_method_154_code 0 = .ok (.getstatic 38, 3) by decide +kernel) ?_
  refine lv_if_eq (tgt := 17) hx hb (show decode prog_14_method_154_code 3 = .ok (.ifCond .eq 14, 3) by decide +kernel) (by decide) (fun q => absurd q (by decide)) (fun _ => ?_)
  refine lv_aload_n hx hb (show decode prog_14_method_154_code 6 = .ok (.aload_n 0, 1) by decide +kernel) rfl (lv_at hl 0 rfl) ?_
  refine vk_getf hx hb (henv.2.2.2.2.2.2.1.1 j hj).2.1 hS hown (hts _ (List.mem_cons_of_mem _ (zBig_in w23 rfl))) (fun _ h => h) (show decode prog_14_method_154_code 7 = .ok (.getfield 15, 3) by decide +kernel) ?_
  refine lv_if_ne (tgt := 17) hx hb (show decode prog_14_method_154_code 10 = .ok (.ifCond .ne 7, 3) by decide +kernel) (by decide) (fun q => absurd rfl q) (fun _ => ?_)
  refine lv_iconst (v := 1) hx hb (show decode prog_14_method_154_code 13 = .ok (.iconst 1, 1) by decide +kernel) (by decide) ?_
  refine lv_goto (tgt := 18) hx hb (show decode prog_14_method_154_code 14 = .ok (.goto 4, 3) by decide +kernel) (by decide) ?_
  exact W.zret (ty := .boolean) hx hb hrt (by decide) (fun t ht hW => ⟨_, rfl, rfl, ht⟩) (fun q hq => by cases hq) (show decode prog_14_method_154_code 18 = .ok (.ireturn, 1) by decide +kernel)
end ZJC
end
section
/-! THE TEXTS' MEMBERS, as the simulation wants them; what stood there before. -/
/-- the script, the static rows, the texts -/
def zXs (L : Nat) (xs : Nat → Int32) : zX := fun j => match j with
  | 0 => (L, fun i => (xs i).toInt)
  | 1 => (7, fun i => ([-1, 0, 0, 2, 1, 0, 5] : List Int).getD i 0)
  | 2 => (3, fun i => ([0, 1, 1] : List Int).getD i 0)
  | 3 => (3, fun i => ([9999, 99, 9] : List Int).getD i 0)
  | j + 4 => if j < 15 then ((zchars (j + 4)).length, fun i => ((zchars (j + 4)).getD i 0).toInt) else (0, fun _ => 0)
section ZJD
variable {A : Nat → Prop} {pa : Nat → Nat} {X : zX} {adV : Nat → Nat}
set_option maxRecDepth 20000 in
theorem zc_len (l : Launch) (j : Nat) (hj : j < 15) : Met l zyLen (Cond.code zyLen prog_14_method_54_code 1 (some .int) :: zBig) zsrm (zSPc A pa X adV (4 + j) []) (zSQc (zchars (j + 4)).length) 0 0 (fun _ => False) := by
  obtain ⟨w1, w2, w3, w4, -, -, -, -, -, -, -, -, -, -, -, -, -, -, -, -, -, w22, -⟩ := zj_words
  obtain ⟨hsm, -⟩ := zchars_ok j hj
  refine Met.ofW (cc := prog_14_method_54_code) (maxL := 1) (ret := some .int) (by decide) rfl ?_
  intro p e s m args below meth c s₁ B hml hv
  obtain ⟨rfl, hA, henv⟩ := hv
  have hx := B.exec
  have hb := B.bytes
  have hrt := B.returns
  have hlocks := B.notSynchronized
  have hts := atoms_spec (ws := Cond.code zyLen prog_14_method_54_code 1 (some .int) :: zBig) B.pre
  have hown : s.vm.findClass "java/lang/String" = some m.cls := findClass_of_methodNamed B.named
  have hS : va_S A s.heap s.heap [] := va_S.rf
  have hT := (henv.2.2.2.2.2.2.1.1 j hj).2.2.2
  rw [zch_len hj, zch_get hj] at hT
  rw [lg_entry_eq]
  have hl := lv_entry [.ref (pa (4 + j))] (n := 1) (Nat.le_of_ble_eq_true rfl)
  generalize (lg_sl [.ref (pa (4 + j))] ++ List.replicate (1 - (lg_sl [.ref (pa (4 + j))]).length) Slot.unset).toArray = ls at hl ⊢
  have hl : lv_has ls 1 [(0, .ref (pa (4 + j)))] := hl
  refine lv_aload_n hx hb (show decode prog_14_method_54_code 0 = .ok (.aload_n 0, 1) by decide +kernel) rfl (lv_at hl 0 rfl) ?_
  refine vk_getf hx hb (henv.2.2.2.2.2.2.1.1 j hj).2.2.1 hS hown (hts _ (List.mem_cons_of_mem _ (zBig_in w22 rfl))) (fun _ h => h) (show decode prog_14_method_54_code 1 = .ok (.getfield 9, 3) by decide +kernel) ?_
  refine va_tlen hx hb hT hS rfl (show decode prog_14_method_54_code 4 = .ok (.arraylength, 1) by decide +kernel) ?_
  refine lv_aload_n hx hb (show decode prog_14_method_54_code 5 = .ok (.aload_n 0, 1) by decide +kernel) rfl (lv_at hl 0 rfl) ?_
  refine zjV (as := []) (rest := [.int (Int32.ofNat (zchars (j + 4)).length)]) hx hb hown hml hl.1 hts (fun w hw => List.mem_cons_of_mem _ hw) henv hj rfl w1 w2 w3 (by decide) (show _ = some 0 by decide +kernel) (zc_cod l j hj) w4 (show 0 + 1 ≤ 4 by decide) (show 30 * 0 + 22 ≤ 150 by decide) (show (1 : Nat) + 0 ≤ 8 by decide) (show decode prog_14_method_54_code 6 = .ok (.invokevirtual 335, 3) by decide +kernel) (fun v hv => ?_)
  subst hv
  refine lv_ishr hx hb (show decode prog_14_method_54_code 9 = .ok (.ishr, 1) by decide +kernel) ?_
  refine W.iret (v := Int32.ofNat (zchars (j + 4)).length >>> ((0 : Int32) &&& 31)) hx hb hrt (fun t ht hW => ⟨_, ?_, rfl, ht⟩) (fun q hq => by cases hq) (show decode prog_14_method_54_code 10 = .ok (.ireturn, 1) by decide +kernel)
  rw [sb_shr0]
  exact zn_ofNat (by omega)
set_option maxRecDepth 20000 in
theorem zc_chr (l : Launch) (j : Nat) (hj : j < 15) (i : Int32) (hi : 0 ≤ i.toInt) (hn : i.toInt < (zchars (j + 4)).length) : Met l zyChr (Cond.code zyChr prog_14_method_56_code 2 (some .char) :: zBig) zsrm (zSPc A pa X adV (4 + j) [.int i]) (zSQc ((zchars (j + 4)).getD i.toInt.toNat 0).toInt) 0 0 (fun _ => False) := by
  obtain ⟨-, -, -, -, w5, w6, w7, w8, w9, w10, w11, w12, -, -, -, -, -, -, -, -, -, w22, -⟩ := zj_words
  obtain ⟨hsm, hall⟩ := zchars_ok j hj
  refine Met.ofW (cc := prog_14_method_56_code) (maxL := 2) (ret := some .char) (by decide) rfl ?_
  intro p e s m args below meth c s₁ B hml hv
  obtain ⟨rfl, hA, henv⟩ := hv
  have hx := B.exec
  have hb := B.bytes
  have hrt := B.returns
  have hlocks := B.notSynchronized
  have hts := atoms_spec (ws := Cond.code zyChr prog_14_method_56_code 2 (some .char) :: zBig) B.pre
  have hown : s.vm.findClass "java/lang/String" = some m.cls := findClass_of_methodNamed B.named
  have hS : va_S A s.heap s.heap [] := va_S.rf
  rw [lg_entry_eq]
  have hl := lv_entry [.ref (pa (4 + j)), .int i] (n := 2) (Nat.le_of_ble_eq_true rfl)
  generalize (lg_sl [.ref (pa (4 + j)), .int i] ++ List.replicate (2 - (lg_sl [.ref (pa (4 + j)), .int i]).length) Slot.unset).toArray = ls at hl ⊢
  have hl : lv_has ls 2 [(0, .ref (pa (4 + j))), (1, .int i)] := hl
  refine lv_aload_n hx hb (show decode prog_14_method_56_code 0 = .ok (.aload_n 0, 1) by decide +kernel) rfl (lv_at hl 0 rfl) ?_
  refine zjV (as := []) (rest := []) hx hb hown hml hl.1 hts (fun w hw => List.mem_cons_of_mem _ hw) henv hj rfl w5 w6 w7 (by decide) (show _ = some 0 by decide +kernel) (zc_lat l j hj) w8 (show 0 + 1 ≤ 4 by decide) (show 30 * 0 + 22 ≤ 150 by decide) (by decide) (show decode prog_14_method_56_code 1 = .ok (.invokevirtual 492, 3) by decide +kernel) (fun v hv => ?_)
  subst hv
  refine lv_if_eq (tgt := 16) hx hb (show decode prog_14_method_56_code 4 = .ok (.ifCond .eq 12, 3) by decide +kernel) (by decide) (fun q => absurd q (by decide)) (fun _ => ?_)
  refine lv_aload_n hx hb (show decode prog_14_method_56_code 7 = .ok (.aload_n 0, 1) by decide +kernel) rfl (lv_at hl 0 rfl) ?_
  refine vk_getf hx hb (henv.2.2.2.2.2.2.1.1 j hj).2.2.1 hS hown (hts _ (List.mem_cons_of_mem _ (zBig_in w22 rfl))) (fun _ h => h) (show decode prog_14_method_56_code 8 = .ok (.getfield 9, 3) by decide +kernel) ?_
  refine lv_iload_n hx hb (show decode prog_14_method_56_code 11 = .ok (.iload_n 1, 1) by decide +kernel) rfl (lv_at hl 1 rfl) ?_
  refine zjS (as := [.ref (adV j), .int i]) (rest := []) hx hb hown hml hl.1 hts (fun w hw => List.mem_cons_of_mem _ hw) henv (by decide) w9 w12 w10 (by decide) (show _ = some 2 by decide +kernel) (zc_lch l j hj i hi hn) w11 (show 2 + 1 ≤ 4 by decide) (show 30 * 2 + 22 ≤ 150 by decide) (by decide) (show decode prog_14_method_56_code 12 = .ok (.invokestatic 495, 3) by decide +kernel) (fun v hv => ?_)
  subst hv
  exact W.zret (ty := .char) hx hb hrt (hall _ (zclt hi hn)).2 (fun t ht hW => ⟨_, rfl, rfl, ht⟩) (fun q hq => by cases hq) (show decode prog_14_method_56_code 15 = .ok (.ireturn, 1) by decide +kernel)
theorem zstr_ok (l : Launch) (L : Nat) (xs : Nat → Int32) : zStrOK l A pa (zXs L xs) adV := by
  intro j hj hx
  obtain ⟨k, rfl⟩ : ∃ k, j = k + 4 := ⟨j - 4, by omega⟩
  by_cases hk : k < 15
  · have e : zXs L xs (k + 4) = ((zchars (k + 4)).length, fun i => ((zchars (k + 4)).getD i 0).toInt) := if_pos hk
    obtain ⟨-, -, -, -, -, -, -, -, -, -, -, -, -, -, -, -, -, -, -, -, -, -, -, w24, w25, -⟩ := zj_words
    refine ⟨by omega, ⟨_, _, w24, by decide, ?_⟩, fun i h1 h2 => ⟨_, _, w25, by decide, ?_⟩⟩
    · rw [e]
      have h := zc_len (A := A) (pa := pa) (X := zXs L xs) (adV := adV) l k hk
      rw [Nat.add_comm 4 k] at h
      exact h
    · rw [e] at h2 ⊢
      have h := zc_chr (A := A) (pa := pa) (X := zXs L xs) (adV := adV) l k hk i h1 h2
      rw [Nat.add_comm 4 k] at h
      exact h
  · have e : zXs L xs (k + 4) = (0, fun _ => 0) := if_neg hk
    rw [e] at hx
    exact absurd hx (by decide)
end ZJD
end
section
/-! THE CLAIM OUT OF ONE WALK OF THE LAW'S BODY. Your part is whole_start (and what it stands on); all else here is the same for every law, but numbers. -/
def R_law : String := "CupsAndPeaLaw"
def lw_P (b : Addr) (xs : List Int32) (args : Array Value) (s : State) : Prop := args = #[.ref b] ∧ s.IntsAt b xs ∧ xs.length ≤ 3072 ∧ (Jvm.Cond.and given_1 narrow_1).before args s = true
def lw_Q (_ : Array Value) (s : State) (o : Outcome) (t : State) : Prop := o = .returned (some (.int 1)) ∧ Framed s o t [] 600000 7302250
def lw_Z (below : List Frame) (a : Array Value) (s : State) : State → Prop := fun t => ∃ o, t.status = .running ∧ Ended t below o ∧ lw_Q a s o t
/-- the law's own end, with 1 on the stack, nothing written that was there before, its room as the claim has it -/
theorem lw_ret {p : Program} {l : Launch} {e : Env} {s : State} {m : MethodId} {below : List Frame} {meth : Method} {c : Code} {b : Nat} (hx : p.tables.exec = Jvm.exec) (hb : c.code = code) (hr : meth.sig.returnType = ret) (hlocks : meth.locks = false) {pc : Nat} {H : Heap} {ls : Array Slot} (hdg : decode code pc = .ok (.ireturn, 1)) : W p l e room_1 s m #[Value.ref b] below meth c H [] 600000 7302250 (lw_Z below #[Value.ref b] s) (F0 m pc ls [.int 1]) := by
  intro T hT X
  obtain ⟨fs, hret, hrun, hended, hW, hframe⟩ := X.leave (v := some (.int 1)) (hlocks := hlocks) (fun h => by rw [hr] at h; cases h)
  have hmeth' : T.vm.method? m = some meth := X.method'
  refine ⟨T.setFrames fs, ?_, .returned (some (.int 1)), hrun, hended, rfl, ⟨_, rfl⟩, hW, hframe⟩
  jvm_step X.here [X.here.top, hx, hb, hdg, hmeth', hr, ret, narrow_b1]
  (try refine ⟨rfl, ?_⟩); (try refine ⟨rfl, ?_⟩)
  first | (intro acts; rw [hret _ acts rfl rfl rfl]) | rw [hret _ _ rfl rfl rfl]
  exact Steps.refl _
/-- what holds at the law's entry: the machine, the code, the tables' words (any of lw_tbl by 'hts w (by decide +kernel)'), the script of L ints xs at the cell b, what the Statement gives of the start (any of its parts by flat_of_before) -/
def lw_At (p : Program) (s : State) (m : MethodId) (meth : Method) (c : Code) (b L : Nat) (xs : Nat → Int32) : Prop :=
  p.tables.exec = Jvm.exec ∧ c.code = code ∧ meth.sig.returnType = ret ∧ c.maxLocals = 4 ∧ s.vm.findClass R_law = some m.cls ∧ (∀ w ∈ lw_tbl, w.before #[Value.ref b] s = true) ∧ va_X b L xs s s.heap ∧ b < s.heap.size ∧ meth.locks = false ∧ (Jvm.Cond.and given_1 narrow_1).before #[Value.ref b] s = true
end
section
/-! THE CLAIM OUT OF ONE RUN OF THE SMALL MACHINE. -/
def z0 : zMem := (fun _ _ => 0, (fun _ _ => 0, (fun _ => (0, (0, 0)), (0, 0))))
/-- the law, as the small machine runs it, answers 1, for a script of L ints xs -/
def zLawRuns (L : Nat) (xs : Nat → Int32) : Prop := ∃ (n d : Nat) (rf : zMem), d ≤ 50 ∧ zrun (zXs L xs) (zcal (zXs L xs) zP d) zc_law n 0 (zinit [.inr (.inr (.inr 0))] 4) [] z0 = some (some (.inl 1), rf) ∧ rf.2.2.2.1 ≤ 600000 ∧ rf.2.2.2.2 ≤ 7302250
def zidxs : List Nat := [69, 71, 73, 75, 77, 79, 81, 46, 97, 55, 102, 60, 132, 134, 136]
def ztm (i : Nat) : Term := .string "CupsAndPea$Tape" (zidxs.getD i 0)
def zflat : List Cond := flatC (Jvm.Cond.and given_1 narrow_1)
theorem zf_ex : ∀ i, i < 15 → Cond.exactly (ztm i) "java/lang/String" ∈ zflat := by decide +kernel
theorem zf_co : ∀ i, i < 15 → Cond.eq (.field (ztm i) "java/lang/String" "coder" "B") (.int 0) ∈ zflat := by decide +kernel
theorem zf_ar : ∀ i, i < 15 → Cond.arrayOf (.field (ztm i) "java/lang/String" "value" "[B") .byte ∈ zflat := by decide +kernel
theorem zf_le : ∀ i, i < 15 → Cond.eq (.length (.field (ztm i) "java/lang/String" "value" "[B")) (.int (Int32.ofNat (zchars (i + 4)).length)) ∈ zflat := by decide +kernel
theorem zf_el : ∀ i, i < 15 → ∀ j, j < (zchars (i + 4)).length → Cond.eq (.elem (.field (ztm i) "java/lang/String" "value" "[B") (.int (Int32.ofNat j))) (.int ((zchars (i + 4)).getD j 0)) ∈ zflat := by decide +kernel
def zfne : List (Nat × (Nat × Nat)) := [(0, (1, 92)), (0, (2, 101)), (1, (2, 102)), (0, (3, 111)), (1, (3, 112)), (2, (3, 113)), (0, (4, 123)), (1, (4, 124)), (2, (4, 125)), (3, (4, 126)), (0, (5, 135)), (1, (5, 136)), (2, (5, 137)), (3, (5, 138)), (4, (5, 139)), (0, (6, 149)), (1, (6, 150)), (2, (6, 151)), (3, (6, 152)), (4, (6, 153)), (5, (6, 154)), (0, (7, 162)), (1, (7, 163)), (2, (7, 164)), (3, (7, 165)), (4, (7, 166)), (5, (7, 167)), (6, (7, 168)), (0, (8, 177)), (1, (8, 178)), (2, (8, 179)), (3, (8, 180)), (4, (8, 181)), (5, (8, 182)), (6, (8, 183)), (7, (8, 184)), (0, (9, 192)), (1, (9, 193)), (2, (9, 194)), (3, (9, 195)), (4, (9, 196)), (5, (9, 197)), (6, (9, 198)), (7, (9, 199)), (8, (9, 200)), (0, (10, 209)), (1, (10, 210)), (2, (10, 211)), (3, (10, 212)), (4, (10, 213)), (5, (10, 214)), (6, (10, 215)), (7, (10, 216)), (8, (10, 217)), (9, (10, 218)), (0, (11, 229)), (1, (11, 230)), (2, (11, 231)), (3, (11, 232)), (4, (11, 233)), (5, (11, 234)), (6, (11, 235)), (7, (11, 236)), (8, (11, 237)), (9, (11, 238)), (10, (11, 239)), (0, (12, 249)), (1, (12, 250)), (2, (12, 251)), (3, (12, 252)), (4, (12, 253)), (5, (12, 254)), (6, (12, 255)), (7, (12, 256)), (8, (12, 257)), (9, (12, 258)), (10, (12, 259)), (11, (12, 260)), (0, (13, 270)), (1, (13, 271)), (2, (13, 272)), (3, (13, 273)), (4, (13, 274)), (5, (13, 275)), (6, (13, 276)), (7, (13, 277)), (8, (13, 278)), (9, (13, 279)), (10, (13, 280)), (11, (13, 281)), (12, (13, 282)), (0, (14, 292)), (1, (14, 293)), (2, (14, 294)), (3, (14, 295)), (4, (14, 296)), (5, (14, 297)), (6, (14, 298)), (7, (14, 299)), (8, (14, 300)), (9, (14, 301)), (10, (14, 302)), (11, (14, 303)), (12, (14, 304)), (13, (14, 305))]
theorem zf_ne0 : zfne.all (fun q => decide (zflat[q.2.2]? = some (Cond.not (Cond.eq (ztm q.1) (ztm q.2.1))))) = true := by decide +kernel
theorem zf_ne1 : ∀ i, i < 15 → ∀ j, j < 15 → i ≠ j → ∃ q ∈ zfne, (q.1 = i ∧ q.2.1 = j) ∨ (q.1 = j ∧ q.2.1 = i) := by decide +kernel
theorem zf_ne : ∀ i, i < 15 → ∀ j, j < 15 → i ≠ j → (Cond.not (Cond.eq (ztm i) (ztm j)) ∈ zflat ∨ Cond.not (Cond.eq (ztm j) (ztm i)) ∈ zflat) := by
  intro i hi j hj hij
  obtain ⟨q, hq, h⟩ := zf_ne1 i hi j hj hij
  have h1 := List.all_eq_true.mp zf_ne0 q hq
  simp only [decide_eq_true_eq] at h1
  rcases h with ⟨rfl, rfl⟩ | ⟨rfl, rfl⟩
  · exact Or.inl (List.mem_of_getElem? h1)
  · exact Or.inr (List.mem_of_getElem? h1)
def zsl (j : Nat) : List Int32 := match j with
  | 1 => [-1, 0, 0, 2, 1, 0, 5]
  | 2 => [0, 1, 1]
  | _ => [9999, 99, 9]
theorem zf_st : ∀ j, j < 3 → Cond.arrayOf (.static (zstat (j + 1)).1 (zstat (j + 1)).2.1 (zstat (j + 1)).2.2) .int ∈ zflat ∧ Cond.eq (.length (.static (zstat (j + 1)).1 (zstat (j + 1)).2.1 (zstat (j + 1)).2.2)) (.int (Int32.ofNat (zsl (j + 1)).length)) ∈ zflat ∧ ∀ i, i < (zsl (j + 1)).length → Cond.eq (.elem (.static (zstat (j + 1)).1 (zstat (j + 1)).2.1 (zstat (j + 1)).2.2) (.int (Int32.ofNat i))) (.int ((zsl (j + 1)).getD i 0)) ∈ zflat := by decide +kernel
theorem zf_ls : ∀ j, j < 3 → Cond.laysStatic (zstat (j + 1)).1 (zstat (j + 1)).2.1 (zstat (j + 1)).2.2 ∈ lw_tbl ∧ Cond.initialized (zstat (j + 1)).1 ∈ lw_tbl := by decide +kernel
theorem zf_X : ∀ (L : Nat) (xs : Nat → Int32) (j : Nat), j < 3 → (zXs L xs (j + 1)).1 = (zsl (j + 1)).length ∧ ∀ i, i < (zsl (j + 1)).length → Int32.ofInt ((zXs L xs (j + 1)).2 i) = (zsl (j + 1)).getD i 0 ∧ w32 ((zXs L xs (j + 1)).2 i) = (zXs L xs (j + 1)).2 i := by
  intro L xs j hj
  match j, hj with
  | 0, _ => exact ⟨rfl, (by decide +kernel : ∀ i, i < 7 → Int32.ofInt (([-1, 0, 0, 2, 1, 0, 5] : List Int).getD i 0) = ([-1, 0, 0, 2, 1, 0, 5] : List Int32).getD i 0 ∧ w32 (([-1, 0, 0, 2, 1, 0, 5] : List Int).getD i 0) = ([-1, 0, 0, 2, 1, 0, 5] : List Int).getD i 0)⟩
  | 1, _ => exact ⟨rfl, (by decide +kernel : ∀ i, i < 3 → Int32.ofInt (([0, 1, 1] : List Int).getD i 0) = ([0, 1, 1] : List Int32).getD i 0 ∧ w32 (([0, 1, 1] : List Int).getD i 0) = ([0, 1, 1] : List Int).getD i 0)⟩
  | 2, _ => exact ⟨rfl, (by decide +kernel : ∀ i, i < 3 → Int32.ofInt (([9999, 99, 9] : List Int).getD i 0) = ([9999, 99, 9] : List Int32).getD i 0 ∧ w32 (([9999, 99, 9] : List Int).getD i 0) = ([9999, 99, 9] : List Int).getD i 0)⟩
theorem zf_jdk : Cond.eq (.static "java/lang/String" "COMPACT_STRINGS" "Z") (.int 1) ∈ zflat ∧ Cond.isRef (.static "jdk/internal/util/Preconditions" "SIOOBE_FORMATTER" "Ljava/util/function/BiFunction;") ∈ zflat ∧ Cond.laysStatic "java/lang/String" "COMPACT_STRINGS" "Z" ∈ lw_tbl ∧ Cond.laysStatic "jdk/internal/util/Preconditions" "SIOOBE_FORMATTER" "Ljava/util/function/BiFunction;" ∈ lw_tbl ∧ Cond.initialized "java/lang/String" ∈ lw_tbl ∧ Cond.initialized "jdk/internal/util/Preconditions" ∈ lw_tbl ∧ Cond.arrayOver (.array .long) ∈ lw_tbl := by
  refine ⟨?_, ?_, ?_, ?_, ?_, ?_, ?_⟩ <;> decide +kernel
theorem zf_pool : zpool.all (fun e => match e.2.2.1 with
  | .ldc j => decide (e.1 = 8 ∧ 4 ≤ j ∧ j < 19 ∧ e.2.1 = zidxs.getD (j - 4) 0)
  | _ => true) = true := by decide +kernel
theorem zf_nestOn {w : Cond} (h : znest w = true) : w.onTables = true := by cases w <;> first | rfl | (cases h; done)
theorem zenv_start {args : Array Value} {s : State} {b L : Nat} {xs : Nat → Int32} (hL : L ≤ 3072) (hts : ∀ w ∈ lw_tbl, w.before args s = true) (hX : va_X b L xs s s.heap) (hbl : b < s.heap.size) (hgv : (Jvm.Cond.and given_1 narrow_1).before args s = true) (hex : ∀ own i j A', zplook zpool own i = some (.ldc j) → (Cond.stringRef (znm own) i (ztext j)).before A' s = true → True) : ∃ (pa adV : Nat → Nat), pa 0 = b ∧ zEnv (fun q => s.heap.size ≤ q) pa (zXs L xs) adV s := by
  have hs : ∀ c ∈ zflat, c.before args s = true := flat_of_before _ hgv
  have hA : ∀ a : Nat, a < s.heap.size → ¬ s.heap.size ≤ a := fun a h => by omega
  obtain ⟨j1, j2, j3, j4, j5, j6, j7⟩ := zf_jdk
  have hst : ∀ j, j < 3 → ∃ t : Nat, (Term.static (zstat (j + 1)).1 (zstat (j + 1)).2.1 (zstat (j + 1)).2.2).eval args s none [] s = some (.ref t) ∧ va_T .int t (zsl (j + 1)).length (fun i => .int ((zsl (j + 1)).getD i 0)) (fun q => s.heap.size ≤ q) s s.heap := by
    intro j hj
    obtain ⟨h1, h2, h3⟩ := zf_st j hj
    have hsm : ∀ j, j < 3 → (zsl (j + 1)).length < 2 ^ 31 := by decide +kernel
    exact va_Tof (hsm j hj) (hs _ h1) (va_eqt (hs _ h2)) (fun i hi => va_eqt (hs _ (h3 i hi))) hA
  obtain ⟨adK, adV, hvk, hadK⟩ := vk_Sof (args := args) (s := s) (N := 15) (tm := ztm) (len := (List.range 15).map (fun i => (zchars (i + 4)).length)) (byt := (List.range 15).map (fun i => zchars (i + 4))) (A := fun q => s.heap.size ≤ q) (fun i hi => by rw [zch_len hi]; have := (zchars_ok i hi).1; omega) (fun i hi => hs _ (zf_ex i hi)) (fun i hi => hs _ (zf_co i hi)) (fun i hi => hs _ (zf_ar i hi)) (fun i hi => by rw [zch_len hi]; exact hs _ (zf_le i hi)) (fun i hi j hj => by rw [zch_len hi] at hj; rw [zch_get hi]; exact hs _ (zf_el i hi j hj)) (fun i j hi hj hij => (zf_ne i hi j hj hij).imp (hs _) (hs _)) hA
  obtain ⟨t1, e1, T1⟩ := hst 0 (by decide)
  obtain ⟨t2, e2, T2⟩ := hst 1 (by decide)
  obtain ⟨t3, e3, T3⟩ := hst 2 (by decide)
  refine ⟨fun j => if j = 0 then b else if j = 1 then t1 else if j = 2 then t2 else if j = 3 then t3 else adK (j - 4), adV, rfl, fun w hw hn => va_Nw.of (zf_nestOn hn) (hts w hw), fun C hC => va_AO.of (hts _ hC), hts _ j7, ?_, ⟨L, xs, rfl, by omega, hX, hbl, hA b hbl⟩, ⟨va_Zof (hts _ j3) (hts _ j5) (va_eqi (hs _ j1)) hA, va_Zqof (hts _ j4) (hts _ j6) (hs _ j2) hA⟩, ?_, ?_⟩
  · intro j h1 h2
    have key : ∀ k, k < 3 → ∀ t, (Term.static (zstat (k + 1)).1 (zstat (k + 1)).2.1 (zstat (k + 1)).2.2).eval args s none [] s = some (.ref t) → va_T .int t (zsl (k + 1)).length (fun i => .int ((zsl (k + 1)).getD i 0)) (fun q => s.heap.size ≤ q) s s.heap → va_Z (zstat (k + 1)).1 (zstat (k + 1)).2.1 (zstat (k + 1)).2.2 (.ref t) (fun q => s.heap.size ≤ q) s s.heap ∧ va_T .int t (zXs L xs (k + 1)).1 (fun i => .int (Int32.ofInt ((zXs L xs (k + 1)).2 i))) (fun q => s.heap.size ≤ q) s s.heap ∧ (zXs L xs (k + 1)).1 < 2147483648 ∧ ∀ i, i < (zXs L xs (k + 1)).1 → w32 ((zXs L xs (k + 1)).2 i) = (zXs L xs (k + 1)).2 i := by
      intro k hk t he hT
      obtain ⟨x1, x2⟩ := zf_X L xs k hk
      obtain ⟨l1, l2⟩ := zf_ls k hk
      have hsm : ∀ j, j < 3 → (zsl (j + 1)).length < 2147483648 := by decide +kernel
      refine ⟨va_Zref (hts _ l1) (hts _ l2) he hA, ?_, by rw [x1]; exact hsm k hk, fun i hi => (x2 i (by rw [← x1]; exact hi)).2⟩
      rw [x1]
      obtain ⟨cell, q1, q2, q3, q4, q5, q6, q7⟩ := hT
      exact ⟨cell, q1, q2, q3, q4, q5, (fun i hi => by rw [q6 i hi]; show some (Value.int _) = some (Value.int _); rw [(x2 i hi).1]), q7⟩
    rcases (show j = 1 ∨ j = 2 ∨ j = 3 by omega) with rfl | rfl | rfl
    · exact key 0 (by decide) t1 e1 T1
    · exact key 1 (by decide) t2 e2 T2
    · exact key 2 (by decide) t3 e3 T3
  · have ep : (fun i => (fun j => if j = 0 then b else if j = 1 then t1 else if j = 2 then t2 else if j = 3 then t3 else adK (j - 4)) (4 + i)) = adK := by
      funext i
      show (if 4 + i = 0 then b else if 4 + i = 1 then t1 else if 4 + i = 2 then t2 else if 4 + i = 3 then t3 else adK (4 + i - 4)) = adK i
      rw [if_neg (by omega), if_neg (by omega), if_neg (by omega), if_neg (by omega), Nat.add_sub_cancel_left]
    rw [ep]
    exact hvk
  · intro own i j hp
    obtain ⟨P, hP⟩ := zplook_mem hp
    have h1 := List.all_eq_true.mp zf_pool _ hP
    simp only [decide_eq_true_eq] at h1
    obtain ⟨rfl, h2, h3, rfl⟩ := h1
    obtain ⟨c, hc, hw⟩ := zpool_fact hp
    simp only [zwant, Bool.and_eq_true, decide_eq_true_eq] at hw
    obtain ⟨-, rfl⟩ := hw
    have h4 := hadK (j - 4) (by omega)
    refine vk_R.of (hts _ hc) ?_
    show (ztm (j - 4)).eval args s none [] s = some (.ref (if j = 0 then b else if j = 1 then t1 else if j = 2 then t2 else if j = 3 then t3 else adK (j - 4)))
    rw [if_neg (by omega), if_neg (by omega), if_neg (by omega), if_neg (by omega)]
    exact h4
theorem zretok_law : zc_law.all (fun e => zretok (some .boolean) e.2.1) = true := by decide +kernel
theorem whole_of (hall : ∀ (L : Nat) (xs : Nat → Int32), L ≤ 3072 → zLawRuns L xs) {p : Program} {e : Env} {s : State} {m : MethodId} {below : List Frame} {meth : Method} {c : Code} (l : Launch) {b L : Nat} {xs : Nat → Int32} (hL : L ≤ 3072) (C0 : lw_At p s m meth c b L xs) : W p l e room_1 s m #[Value.ref b] below meth c s.heap [] 0 0 (lw_Z below #[Value.ref b] s) (entryFrame m ([Value.ref b] : List Value).toArray 4) := by
  obtain ⟨hx, hb, hr, hml, hown, hts, hX, hbl, hlocks, hgv⟩ := C0
  obtain ⟨n, d, rf, hd, hrun, hr1, hr2⟩ := hall L xs hL
  obtain ⟨pa, adV, hpa, henv⟩ := zenv_start hL hts hX hbl hgv (fun _ _ _ _ _ _ => trivial)
  have hex : ∀ c0, ∃ (cC : ClassId) (iS : Nat → Nat), c0 < 11 → u_Kn s (znm c0) (zTT c0) (znf c0) cC iS := by
    intro c0
    by_cases hc : c0 < 11
    · obtain ⟨-, k2, -, -, k5, -⟩ := zclass_ok c0 hc
      obtain ⟨cC, iS, h⟩ := u_known hts k2 (hts _ k5)
      exact ⟨cC, iS, fun _ => h⟩
    · exact ⟨0, fun _ => 0, fun h => absurd h hc⟩
  generalize hDe : ((fun c0 => Classical.choose (hex c0), fun c0 => Classical.choose (Classical.choose_spec (hex c0))) : va_G) = D
  have hK : va_K D zcl [] s := by
    refine ⟨fun c0 q hq => ?_, fun k q hq => by cases hq⟩
    have hc : c0 < 11 := (List.getElem?_eq_some_iff.mp hq).1
    have hq2 := (zclass_ok c0 hc).1
    rw [hq] at hq2
    cases hq2
    rw [← hDe]
    exact Classical.choose_spec (Classical.choose_spec (hex c0)) hc
  rw [lg_entry_eq]
  have hargs : zSR pa [] [.inr (.inr (.inr 0))] [Value.ref b] := ⟨_, _, rfl, by show Value.ref b = .ref (pa 0); rw [hpa], rfl⟩
  have hl := zLR_init (nl := 4) hargs (by decide)
  generalize (lg_sl [Value.ref b] ++ List.replicate (4 - (lg_sl [Value.ref b]).length) Slot.unset).toArray = mls at hl ⊢
  have hret : zRets p l e room_1 s m #[Value.ref b] below meth c code (lw_Z below #[Value.ref b] s) D (fun q => s.heap.size ≤ q) pa [] z0 rf (some (.inl 1)) (some .boolean) := by
    intro ws' tys' H locs mls' pc hK' hR' hP' hD' hS' hxx'
    refine ⟨fun x hx1 hty hdg => ?_, fun x hx1 hty hdg => (by cases hx1), fun z w hz hw hty hdg => (by cases hz), fun hn0 hty hdg => (by cases hn0)⟩
    have e1 : x = 1 := by
      have h9 : (1 : Int) = x.toInt := Sum.inl.inj (Option.some.inj hx1)
      exact (zn_eq x 1).mpr (by rw [← h9]; rfl)
    subst e1
    refine va_forget (fun q hq => hS'.2.2 q hq) ?_
    refine W.widen (k := 600000) (n := 7302250) ?_ ?_ ?_
    · show rf.2.2.2.1 - 0 ≤ _; omega
    · show rf.2.2.2.2 - 0 ≤ _; omega
    · exact lw_ret hx hb hr hlocks hdg
  have hz := zsim (ret := some .boolean) (ws0 := []) (σ0 := z0) (rf := rf) (rv := some (.inl 1)) (P := zP) (md := 1) (d := d) (own := 11) (nl := 4) (code := zc_law) (R := room_1) (Q := lw_Z below #[Value.ref b] s) (D := D) (A := fun q => s.heap.size ≤ q) (pa := pa) (X := zXs L xs) (adV := adV) (Ts := lw_tbl) (args := #[Value.ref b]) (below := below) (l := l) (e := e) hx hb hown hml hts (fun w hw => (List.mem_filter.mp hw).1) henv (fun q h => h) (zstr_ok l L xs) (zmet_all (zstr_ok l L xs) d) (fun e he => List.all_eq_true.mp zlaw_ok e he) (fun e he => List.all_eq_true.mp zretok_law e he) (fun h => by cases h) (by show d + 6 ≤ 2048; omega) (by show 40 * (d + 1) + 250 ≤ 84000; omega) (by show rf.2.2.2.1 - 0 ≤ 600000; omega) (by show rf.2.2.2.2 - 0 ≤ 7302250; omega) hret n 0 (zinit [.inr (.inr (.inr 0))] 4) [] z0 rfl hrun
  have h1 := hz.2 [] [] s.heap [] mls [] ⟨Nat.le_refl _, Nat.le_refl _⟩ hK ⟨rfl, rfl, (fun b q hq => by cases hq)⟩ (fun k q hq => by cases hq) ⟨(fun i j p q hp => by cases hp), (fun k q hq => by cases hq)⟩ va_S.rf (zext.refl []) hl rfl
  exact h1
end
