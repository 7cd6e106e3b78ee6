section
-- ===== PART A: goes FIRST, ahead of the names: the tables' words, and 'selects' of the private methods out of them =====
/-- a private method of a class that the tables say can be made, by its rows of tables_1 -/
def lw_okq (q : MethodName × Nat) : Prop := (q.1.cls ≠ "java/lang/invoke/MethodHandle" ∧ q.1.cls ≠ "java/lang/invoke/VarHandle") ∧ Cond.instantiable q.1.cls q.2 ∈ tables_1 ∧ Cond.privateMethod q.1 ∈ tables_1 ∧ Cond.instanceMethod q.1 ∈ tables_1
theorem lw_p0 : lw_okq (⟨"CupsAndPea", "tell", "(I)I"⟩, 11) := ⟨⟨by decide +kernel, by decide +kernel⟩, List.mem_of_getElem? (i := 19) (by decide +kernel), List.mem_of_getElem? (i := 301) (by decide +kernel), List.mem_of_getElem? (i := 302) (by decide +kernel)⟩
theorem lw_p1 : lw_okq (⟨"CupsAndPea", "isPlaceOrHand", "(I)Z"⟩, 11) := ⟨⟨by decide +kernel, by decide +kernel⟩, List.mem_of_getElem? (i := 19) (by decide +kernel), List.mem_of_getElem? (i := 314) (by decide +kernel), List.mem_of_getElem? (i := 315) (by decide +kernel)⟩
theorem lw_p2 : lw_okq (⟨"CupsAndPea", "isPlace", "(I)Z"⟩, 11) := ⟨⟨by decide +kernel, by decide +kernel⟩, List.mem_of_getElem? (i := 19) (by decide +kernel), List.mem_of_getElem? (i := 318) (by decide +kernel), List.mem_of_getElem? (i := 319) (by decide +kernel)⟩
theorem lw_p3 : lw_okq (⟨"CupsAndPea", "isPass", "(I)Z"⟩, 11) := ⟨⟨by decide +kernel, by decide +kernel⟩, List.mem_of_getElem? (i := 19) (by decide +kernel), List.mem_of_getElem? (i := 342) (by decide +kernel), List.mem_of_getElem? (i := 343) (by decide +kernel)⟩
theorem lw_p4 : lw_okq (⟨"CupsAndPea", "isBehind", "(I)Z"⟩, 11) := ⟨⟨by decide +kernel, by decide +kernel⟩, List.mem_of_getElem? (i := 19) (by decide +kernel), List.mem_of_getElem? (i := 367) (by decide +kernel), List.mem_of_getElem? (i := 368) (by decide +kernel)⟩
theorem lw_p5 : lw_okq (⟨"CupsAndPea$Pass", "whirled", "(I)I"⟩, 3) := ⟨⟨by decide +kernel, by decide +kernel⟩, List.mem_of_getElem? (i := 38) (by decide +kernel), List.mem_of_getElem? (i := 383) (by decide +kernel), List.mem_of_getElem? (i := 384) (by decide +kernel)⟩
theorem lw_p6 : lw_okq (⟨"CupsAndPea", "likeliest", "(I)I"⟩, 11) := ⟨⟨by decide +kernel, by decide +kernel⟩, List.mem_of_getElem? (i := 19) (by decide +kernel), List.mem_of_getElem? (i := 443) (by decide +kernel), List.mem_of_getElem? (i := 444) (by decide +kernel)⟩
theorem lw_p7 : lw_okq (⟨"CupsAndPea", "rightOf", "(II)J"⟩, 11) := ⟨⟨by decide +kernel, by decide +kernel⟩, List.mem_of_getElem? (i := 19) (by decide +kernel), List.mem_of_getElem? (i := 455) (by decide +kernel), List.mem_of_getElem? (i := 456) (by decide +kernel)⟩
theorem lw_p8 : lw_okq (⟨"CupsAndPea", "rightIf", "(III)J"⟩, 11) := ⟨⟨by decide +kernel, by decide +kernel⟩, List.mem_of_getElem? (i := 19) (by decide +kernel), List.mem_of_getElem? (i := 486) (by decide +kernel), List.mem_of_getElem? (i := 487) (by decide +kernel)⟩
theorem lw_p9 : lw_okq (⟨"CupsAndPea$Orders", "goOn", "(LCupsAndPea$Table;II)V"⟩, 1) := ⟨⟨by decide +kernel, by decide +kernel⟩, List.mem_of_getElem? (i := 202) (by decide +kernel), List.mem_of_getElem? (i := 559) (by decide +kernel), List.mem_of_getElem? (i := 560) (by decide +kernel)⟩
theorem lw_p10 : lw_okq (⟨"CupsAndPea$Tape", "step", "()V"⟩, 6) := ⟨⟨by decide +kernel, by decide +kernel⟩, List.mem_of_getElem? (i := 212) (by decide +kernel), List.mem_of_getElem? (i := 702) (by decide +kernel), List.mem_of_getElem? (i := 703) (by decide +kernel)⟩
theorem lw_p11 : lw_okq (⟨"CupsAndPea$Tape", "sortAt", "(I)I"⟩, 6) := ⟨⟨by decide +kernel, by decide +kernel⟩, List.mem_of_getElem? (i := 212) (by decide +kernel), List.mem_of_getElem? (i := 706) (by decide +kernel), List.mem_of_getElem? (i := 707) (by decide +kernel)⟩
theorem lw_p12 : lw_okq (⟨"CupsAndPea$Tape", "readItem", "(LCupsAndPea$Table;)Z"⟩, 6) := ⟨⟨by decide +kernel, by decide +kernel⟩, List.mem_of_getElem? (i := 212) (by decide +kernel), List.mem_of_getElem? (i := 711) (by decide +kernel), List.mem_of_getElem? (i := 712) (by decide +kernel)⟩
theorem lw_p13 : lw_okq (⟨"CupsAndPea$Tape", "kindNamed", "()I"⟩, 6) := ⟨⟨by decide +kernel, by decide +kernel⟩, List.mem_of_getElem? (i := 212) (by decide +kernel), List.mem_of_getElem? (i := 715) (by decide +kernel), List.mem_of_getElem? (i := 716) (by decide +kernel)⟩
theorem lw_p14 : lw_okq (⟨"CupsAndPea$Tape", "isWord", "(Ljava/lang/String;)Z"⟩, 6) := ⟨⟨by decide +kernel, by decide +kernel⟩, List.mem_of_getElem? (i := 212) (by decide +kernel), List.mem_of_getElem? (i := 729) (by decide +kernel), List.mem_of_getElem? (i := 730) (by decide +kernel)⟩
theorem lw_p15 : lw_okq (⟨"CupsAndPea$Tape", "readPass", "(LCupsAndPea$Table;I)Z"⟩, 6) := ⟨⟨by decide +kernel, by decide +kernel⟩, List.mem_of_getElem? (i := 212) (by decide +kernel), List.mem_of_getElem? (i := 781) (by decide +kernel), List.mem_of_getElem? (i := 782) (by decide +kernel)⟩
def lw_privs_1 : List (MethodName × Nat) := [(⟨"CupsAndPea", "tell", "(I)I"⟩, 11), (⟨"CupsAndPea", "isPlaceOrHand", "(I)Z"⟩, 11), (⟨"CupsAndPea", "isPlace", "(I)Z"⟩, 11), (⟨"CupsAndPea", "isPass", "(I)Z"⟩, 11), (⟨"CupsAndPea", "isBehind", "(I)Z"⟩, 11), (⟨"CupsAndPea$Pass", "whirled", "(I)I"⟩, 3), (⟨"CupsAndPea", "likeliest", "(I)I"⟩, 11), (⟨"CupsAndPea", "rightOf", "(II)J"⟩, 11), (⟨"CupsAndPea", "rightIf", "(III)J"⟩, 11), (⟨"CupsAndPea$Orders", "goOn", "(LCupsAndPea$Table;II)V"⟩, 1), (⟨"CupsAndPea$Tape", "step", "()V"⟩, 6), (⟨"CupsAndPea$Tape", "sortAt", "(I)I"⟩, 6), (⟨"CupsAndPea$Tape", "readItem", "(LCupsAndPea$Table;)Z"⟩, 6), (⟨"CupsAndPea$Tape", "kindNamed", "()I"⟩, 6), (⟨"CupsAndPea$Tape", "isWord", "(Ljava/lang/String;)Z"⟩, 6), (⟨"CupsAndPea$Tape", "readPass", "(LCupsAndPea$Table;I)Z"⟩, 6)]
theorem lw_r1 : ∀ q ∈ lw_privs_1, lw_okq q := List.forall_mem_cons.mpr ⟨lw_p0, List.forall_mem_cons.mpr ⟨lw_p1, List.forall_mem_cons.mpr ⟨lw_p2, List.forall_mem_cons.mpr ⟨lw_p3, List.forall_mem_cons.mpr ⟨lw_p4, List.forall_mem_cons.mpr ⟨lw_p5, List.forall_mem_cons.mpr ⟨lw_p6, List.forall_mem_cons.mpr ⟨lw_p7, List.forall_mem_cons.mpr ⟨lw_p8, List.forall_mem_cons.mpr ⟨lw_p9, List.forall_mem_cons.mpr ⟨lw_p10, List.forall_mem_cons.mpr ⟨lw_p11, List.forall_mem_cons.mpr ⟨lw_p12, List.forall_mem_cons.mpr ⟨lw_p13, List.forall_mem_cons.mpr ⟨lw_p14, List.forall_mem_cons.mpr ⟨lw_p15, fun _ h => absurd h List.not_mem_nil⟩⟩⟩⟩⟩⟩⟩⟩⟩⟩⟩⟩⟩⟩⟩⟩
theorem lw_p16 : lw_okq (⟨"CupsAndPea$Tape", "takeNumber", "(II)I"⟩, 6) := ⟨⟨by decide +kernel, by decide +kernel⟩, List.mem_of_getElem? (i := 212) (by decide +kernel), List.mem_of_getElem? (i := 785) (by decide +kernel), List.mem_of_getElem? (i := 786) (by decide +kernel)⟩
theorem lw_p17 : lw_okq (⟨"CupsAndPea$Tape", "readPea", "(LCupsAndPea$Table;)Z"⟩, 6) := ⟨⟨by decide +kernel, by decide +kernel⟩, List.mem_of_getElem? (i := 212) (by decide +kernel), List.mem_of_getElem? (i := 792) (by decide +kernel), List.mem_of_getElem? (i := 793) (by decide +kernel)⟩
theorem lw_p18 : lw_okq (⟨"CupsAndPea$Tape", "readEye", "(LCupsAndPea$Table;)Z"⟩, 6) := ⟨⟨by decide +kernel, by decide +kernel⟩, List.mem_of_getElem? (i := 212) (by decide +kernel), List.mem_of_getElem? (i := 798) (by decide +kernel), List.mem_of_getElem? (i := 799) (by decide +kernel)⟩
theorem lw_p19 : lw_okq (⟨"CupsAndPea$Tape", "readPlayer", "(LCupsAndPea$Table;)Z"⟩, 6) := ⟨⟨by decide +kernel, by decide +kernel⟩, List.mem_of_getElem? (i := 212) (by decide +kernel), List.mem_of_getElem? (i := 804) (by decide +kernel), List.mem_of_getElem? (i := 805) (by decide +kernel)⟩
theorem lw_p20 : lw_okq (⟨"CupsAndPeaModel", "finds", "(I)I"⟩, 31) := ⟨⟨by decide +kernel, by decide +kernel⟩, List.mem_of_getElem? (i := 904) (by decide +kernel), List.mem_of_getElem? (i := 1013) (by decide +kernel), List.mem_of_getElem? (i := 1014) (by decide +kernel)⟩
theorem lw_p21 : lw_okq (⟨"CupsAndPeaModel", "isPlace", "(I)Z"⟩, 31) := ⟨⟨by decide +kernel, by decide +kernel⟩, List.mem_of_getElem? (i := 904) (by decide +kernel), List.mem_of_getElem? (i := 1027) (by decide +kernel), List.mem_of_getElem? (i := 1028) (by decide +kernel)⟩
theorem lw_p22 : lw_okq (⟨"CupsAndPeaModel", "comes", "(III)I"⟩, 31) := ⟨⟨by decide +kernel, by decide +kernel⟩, List.mem_of_getElem? (i := 904) (by decide +kernel), List.mem_of_getElem? (i := 1031) (by decide +kernel), List.mem_of_getElem? (i := 1032) (by decide +kernel)⟩
theorem lw_p23 : lw_okq (⟨"CupsAndPeaModel", "isPass", "(I)Z"⟩, 31) := ⟨⟨by decide +kernel, by decide +kernel⟩, List.mem_of_getElem? (i := 904) (by decide +kernel), List.mem_of_getElem? (i := 1039) (by decide +kernel), List.mem_of_getElem? (i := 1040) (by decide +kernel)⟩
theorem lw_p24 : lw_okq (⟨"CupsAndPeaModel", "its", "(II)I"⟩, 31) := ⟨⟨by decide +kernel, by decide +kernel⟩, List.mem_of_getElem? (i := 904) (by decide +kernel), List.mem_of_getElem? (i := 1043) (by decide +kernel), List.mem_of_getElem? (i := 1044) (by decide +kernel)⟩
theorem lw_p25 : lw_okq (⟨"CupsAndPeaModel", "seen", "(I)I"⟩, 31) := ⟨⟨by decide +kernel, by decide +kernel⟩, List.mem_of_getElem? (i := 904) (by decide +kernel), List.mem_of_getElem? (i := 1047) (by decide +kernel), List.mem_of_getElem? (i := 1048) (by decide +kernel)⟩
theorem lw_p26 : lw_okq (⟨"CupsAndPeaModel", "peaBehind", "(I)I"⟩, 31) := ⟨⟨by decide +kernel, by decide +kernel⟩, List.mem_of_getElem? (i := 904) (by decide +kernel), List.mem_of_getElem? (i := 1066) (by decide +kernel), List.mem_of_getElem? (i := 1067) (by decide +kernel)⟩
theorem lw_p27 : lw_okq (⟨"CupsAndPeaModel", "watches", "(III)V"⟩, 31) := ⟨⟨by decide +kernel, by decide +kernel⟩, List.mem_of_getElem? (i := 904) (by decide +kernel), List.mem_of_getElem? (i := 1099) (by decide +kernel), List.mem_of_getElem? (i := 1100) (by decide +kernel)⟩
theorem lw_p28 : lw_okq (⟨"CupsAndPeaModel", "beginsBy", "(I)V"⟩, 31) := ⟨⟨by decide +kernel, by decide +kernel⟩, List.mem_of_getElem? (i := 904) (by decide +kernel), List.mem_of_getElem? (i := 1103) (by decide +kernel), List.mem_of_getElem? (i := 1104) (by decide +kernel)⟩
theorem lw_p29 : lw_okq (⟨"CupsAndPeaModel", "slips", "(II)I"⟩, 31) := ⟨⟨by decide +kernel, by decide +kernel⟩, List.mem_of_getElem? (i := 904) (by decide +kernel), List.mem_of_getElem? (i := 1107) (by decide +kernel), List.mem_of_getElem? (i := 1108) (by decide +kernel)⟩
theorem lw_p30 : lw_okq (⟨"CupsAndPeaModel", "looksAt", "(III)V"⟩, 31) := ⟨⟨by decide +kernel, by decide +kernel⟩, List.mem_of_getElem? (i := 904) (by decide +kernel), List.mem_of_getElem? (i := 1111) (by decide +kernel), List.mem_of_getElem? (i := 1112) (by decide +kernel)⟩
theorem lw_p31 : lw_okq (⟨"CupsAndPeaModel", "guessBehind", "(II)I"⟩, 31) := ⟨⟨by decide +kernel, by decide +kernel⟩, List.mem_of_getElem? (i := 904) (by decide +kernel), List.mem_of_getElem? (i := 1119) (by decide +kernel), List.mem_of_getElem? (i := 1120) (by decide +kernel)⟩
def lw_privs_2 : List (MethodName × Nat) := [(⟨"CupsAndPea$Tape", "takeNumber", "(II)I"⟩, 6), (⟨"CupsAndPea$Tape", "readPea", "(LCupsAndPea$Table;)Z"⟩, 6), (⟨"CupsAndPea$Tape", "readEye", "(LCupsAndPea$Table;)Z"⟩, 6), (⟨"CupsAndPea$Tape", "readPlayer", "(LCupsAndPea$Table;)Z"⟩, 6), (⟨"CupsAndPeaModel", "finds", "(I)I"⟩, 31), (⟨"CupsAndPeaModel", "isPlace", "(I)Z"⟩, 31), (⟨"CupsAndPeaModel", "comes", "(III)I"⟩, 31), (⟨"CupsAndPeaModel", "isPass", "(I)Z"⟩, 31), (⟨"CupsAndPeaModel", "its", "(II)I"⟩, 31), (⟨"CupsAndPeaModel", "seen", "(I)I"⟩, 31), (⟨"CupsAndPeaModel", "peaBehind", "(I)I"⟩, 31), (⟨"CupsAndPeaModel", "watches", "(III)V"⟩, 31), (⟨"CupsAndPeaModel", "beginsBy", "(I)V"⟩, 31), (⟨"CupsAndPeaModel", "slips", "(II)I"⟩, 31), (⟨"CupsAndPeaModel", "looksAt", "(III)V"⟩, 31), (⟨"CupsAndPeaModel", "guessBehind", "(II)I"⟩, 31)]
theorem lw_r2 : ∀ q ∈ lw_privs_2, lw_okq q := List.forall_mem_cons.mpr ⟨lw_p16, List.forall_mem_cons.mpr ⟨lw_p17, List.forall_mem_cons.mpr ⟨lw_p18, List.forall_mem_cons.mpr ⟨lw_p19, List.forall_mem_cons.mpr ⟨lw_p20, List.forall_mem_cons.mpr ⟨lw_p21, List.forall_mem_cons.mpr ⟨lw_p22, List.forall_mem_cons.mpr ⟨lw_p23, List.forall_mem_cons.mpr ⟨lw_p24, List.forall_mem_cons.mpr ⟨lw_p25, List.forall_mem_cons.mpr ⟨lw_p26, List.forall_mem_cons.mpr ⟨lw_p27, List.forall_mem_cons.mpr ⟨lw_p28, List.forall_mem_cons.mpr ⟨lw_p29, List.forall_mem_cons.mpr ⟨lw_p30, List.forall_mem_cons.mpr ⟨lw_p31, fun _ h => absurd h List.not_mem_nil⟩⟩⟩⟩⟩⟩⟩⟩⟩⟩⟩⟩⟩⟩⟩⟩
theorem lw_p32 : lw_okq (⟨"CupsAndPeaModel", "heaviest", "()I"⟩, 31) := ⟨⟨by decide +kernel, by decide +kernel⟩, List.mem_of_getElem? (i := 904) (by decide +kernel), List.mem_of_getElem? (i := 1123) (by decide +kernel), List.mem_of_getElem? (i := 1124) (by decide +kernel)⟩
theorem lw_p33 : lw_okq (⟨"CupsAndPeaModel", "rightOf", "(II)J"⟩, 31) := ⟨⟨by decide +kernel, by decide +kernel⟩, List.mem_of_getElem? (i := 904) (by decide +kernel), List.mem_of_getElem? (i := 1131) (by decide +kernel), List.mem_of_getElem? (i := 1132) (by decide +kernel)⟩
theorem lw_p34 : lw_okq (⟨"CupsAndPeaModel", "rightNow", "(I)J"⟩, 31) := ⟨⟨by decide +kernel, by decide +kernel⟩, List.mem_of_getElem? (i := 904) (by decide +kernel), List.mem_of_getElem? (i := 1135) (by decide +kernel), List.mem_of_getElem? (i := 1136) (by decide +kernel)⟩
theorem lw_p35 : lw_okq (⟨"CupsAndPeaModel", "rightAs", "(III)J"⟩, 31) := ⟨⟨by decide +kernel, by decide +kernel⟩, List.mem_of_getElem? (i := 904) (by decide +kernel), List.mem_of_getElem? (i := 1159) (by decide +kernel), List.mem_of_getElem? (i := 1160) (by decide +kernel)⟩
theorem lw_p36 : lw_okq (⟨"CupsAndPeaModel", "whyMisled", "(III)I"⟩, 31) := ⟨⟨by decide +kernel, by decide +kernel⟩, List.mem_of_getElem? (i := 904) (by decide +kernel), List.mem_of_getElem? (i := 1171) (by decide +kernel), List.mem_of_getElem? (i := 1172) (by decide +kernel)⟩
theorem lw_p37 : lw_okq (⟨"CupsAndPeaModel", "findMisled", "(III)V"⟩, 31) := ⟨⟨by decide +kernel, by decide +kernel⟩, List.mem_of_getElem? (i := 904) (by decide +kernel), List.mem_of_getElem? (i := 1176) (by decide +kernel), List.mem_of_getElem? (i := 1177) (by decide +kernel)⟩
theorem lw_p38 : lw_okq (⟨"CupsAndPeaModel", "layPairs", "()V"⟩, 31) := ⟨⟨by decide +kernel, by decide +kernel⟩, List.mem_of_getElem? (i := 904) (by decide +kernel), List.mem_of_getElem? (i := 1180) (by decide +kernel), List.mem_of_getElem? (i := 1181) (by decide +kernel)⟩
theorem lw_p39 : lw_okq (⟨"CupsAndPeaModel", "pairOf", "(III)I"⟩, 31) := ⟨⟨by decide +kernel, by decide +kernel⟩, List.mem_of_getElem? (i := 904) (by decide +kernel), List.mem_of_getElem? (i := 1184) (by decide +kernel), List.mem_of_getElem? (i := 1185) (by decide +kernel)⟩
theorem lw_p40 : lw_okq (⟨"CupsAndPeaModel", "isWhere", "(I)Z"⟩, 31) := ⟨⟨by decide +kernel, by decide +kernel⟩, List.mem_of_getElem? (i := 904) (by decide +kernel), List.mem_of_getElem? (i := 1196) (by decide +kernel), List.mem_of_getElem? (i := 1197) (by decide +kernel)⟩
theorem lw_p41 : lw_okq (⟨"CupsAndPeaModel", "findFeints", "(I)V"⟩, 31) := ⟨⟨by decide +kernel, by decide +kernel⟩, List.mem_of_getElem? (i := 904) (by decide +kernel), List.mem_of_getElem? (i := 1200) (by decide +kernel), List.mem_of_getElem? (i := 1201) (by decide +kernel)⟩
theorem lw_p42 : lw_okq (⟨"CupsAndPeaModel", "whose", "(II)I"⟩, 31) := ⟨⟨by decide +kernel, by decide +kernel⟩, List.mem_of_getElem? (i := 904) (by decide +kernel), List.mem_of_getElem? (i := 1227) (by decide +kernel), List.mem_of_getElem? (i := 1228) (by decide +kernel)⟩
theorem lw_p43 : lw_okq (⟨"CupsAndPeaModel", "sets", "(III)V"⟩, 31) := ⟨⟨by decide +kernel, by decide +kernel⟩, List.mem_of_getElem? (i := 904) (by decide +kernel), List.mem_of_getElem? (i := 1231) (by decide +kernel), List.mem_of_getElem? (i := 1232) (by decide +kernel)⟩
theorem lw_p44 : lw_okq (⟨"CupsAndPeaModel", "hasLeft", "(I)Z"⟩, 31) := ⟨⟨by decide +kernel, by decide +kernel⟩, List.mem_of_getElem? (i := 904) (by decide +kernel), List.mem_of_getElem? (i := 1239) (by decide +kernel), List.mem_of_getElem? (i := 1240) (by decide +kernel)⟩
theorem lw_p45 : lw_okq (⟨"CupsAndPeaModel", "aRound", "(IZ)I"⟩, 31) := ⟨⟨by decide +kernel, by decide +kernel⟩, List.mem_of_getElem? (i := 904) (by decide +kernel), List.mem_of_getElem? (i := 1247) (by decide +kernel), List.mem_of_getElem? (i := 1248) (by decide +kernel)⟩
theorem lw_p46 : lw_okq (⟨"CupsAndPeaModel", "bestOf", "(II)I"⟩, 31) := ⟨⟨by decide +kernel, by decide +kernel⟩, List.mem_of_getElem? (i := 904) (by decide +kernel), List.mem_of_getElem? (i := 1259) (by decide +kernel), List.mem_of_getElem? (i := 1260) (by decide +kernel)⟩
theorem lw_p47 : lw_okq (⟨"CupsAndPeaModel", "tries", "(II)V"⟩, 31) := ⟨⟨by decide +kernel, by decide +kernel⟩, List.mem_of_getElem? (i := 904) (by decide +kernel), List.mem_of_getElem? (i := 1263) (by decide +kernel), List.mem_of_getElem? (i := 1264) (by decide +kernel)⟩
def lw_privs_3 : List (MethodName × Nat) := [(⟨"CupsAndPeaModel", "heaviest", "()I"⟩, 31), (⟨"CupsAndPeaModel", "rightOf", "(II)J"⟩, 31), (⟨"CupsAndPeaModel", "rightNow", "(I)J"⟩, 31), (⟨"CupsAndPeaModel", "rightAs", "(III)J"⟩, 31), (⟨"CupsAndPeaModel", "whyMisled", "(III)I"⟩, 31), (⟨"CupsAndPeaModel", "findMisled", "(III)V"⟩, 31), (⟨"CupsAndPeaModel", "layPairs", "()V"⟩, 31), (⟨"CupsAndPeaModel", "pairOf", "(III)I"⟩, 31), (⟨"CupsAndPeaModel", "isWhere", "(I)Z"⟩, 31), (⟨"CupsAndPeaModel", "findFeints", "(I)V"⟩, 31), (⟨"CupsAndPeaModel", "whose", "(II)I"⟩, 31), (⟨"CupsAndPeaModel", "sets", "(III)V"⟩, 31), (⟨"CupsAndPeaModel", "hasLeft", "(I)Z"⟩, 31), (⟨"CupsAndPeaModel", "aRound", "(IZ)I"⟩, 31), (⟨"CupsAndPeaModel", "bestOf", "(II)I"⟩, 31), (⟨"CupsAndPeaModel", "tries", "(II)V"⟩, 31)]
theorem lw_r3 : ∀ q ∈ lw_privs_3, lw_okq q := List.forall_mem_cons.mpr ⟨lw_p32, List.forall_mem_cons.mpr ⟨lw_p33, List.forall_mem_cons.mpr ⟨lw_p34, List.forall_mem_cons.mpr ⟨lw_p35, List.forall_mem_cons.mpr ⟨lw_p36, List.forall_mem_cons.mpr ⟨lw_p37, List.forall_mem_cons.mpr ⟨lw_p38, List.forall_mem_cons.mpr ⟨lw_p39, List.forall_mem_cons.mpr ⟨lw_p40, List.forall_mem_cons.mpr ⟨lw_p41, List.forall_mem_cons.mpr ⟨lw_p42, List.forall_mem_cons.mpr ⟨lw_p43, List.forall_mem_cons.mpr ⟨lw_p44, List.forall_mem_cons.mpr ⟨lw_p45, List.forall_mem_cons.mpr ⟨lw_p46, List.forall_mem_cons.mpr ⟨lw_p47, fun _ h => absurd h List.not_mem_nil⟩⟩⟩⟩⟩⟩⟩⟩⟩⟩⟩⟩⟩⟩⟩⟩
theorem lw_p48 : lw_okq (⟨"CupsAndPeaModel", "drawn", "()I"⟩, 31) := ⟨⟨by decide +kernel, by decide +kernel⟩, List.mem_of_getElem? (i := 904) (by decide +kernel), List.mem_of_getElem? (i := 1287) (by decide +kernel), List.mem_of_getElem? (i := 1288) (by decide +kernel)⟩
theorem lw_p49 : lw_okq (⟨"CupsAndPeaModel", "items", "()I"⟩, 31) := ⟨⟨by decide +kernel, by decide +kernel⟩, List.mem_of_getElem? (i := 904) (by decide +kernel), List.mem_of_getElem? (i := 1308) (by decide +kernel), List.mem_of_getElem? (i := 1309) (by decide +kernel)⟩
theorem lw_p50 : lw_okq (⟨"CupsAndPeaModel", "next", "()V"⟩, 31) := ⟨⟨by decide +kernel, by decide +kernel⟩, List.mem_of_getElem? (i := 904) (by decide +kernel), List.mem_of_getElem? (i := 1312) (by decide +kernel), List.mem_of_getElem? (i := 1313) (by decide +kernel)⟩
theorem lw_p51 : lw_okq (⟨"CupsAndPeaModel", "byteAt", "(I)I"⟩, 31) := ⟨⟨by decide +kernel, by decide +kernel⟩, List.mem_of_getElem? (i := 904) (by decide +kernel), List.mem_of_getElem? (i := 1316) (by decide +kernel), List.mem_of_getElem? (i := 1317) (by decide +kernel)⟩
theorem lw_p52 : lw_okq (⟨"CupsAndPeaModel", "item", "()V"⟩, 31) := ⟨⟨by decide +kernel, by decide +kernel⟩, List.mem_of_getElem? (i := 904) (by decide +kernel), List.mem_of_getElem? (i := 1329) (by decide +kernel), List.mem_of_getElem? (i := 1330) (by decide +kernel)⟩
theorem lw_p53 : lw_okq (⟨"CupsAndPeaModel", "kindHere", "()I"⟩, 31) := ⟨⟨by decide +kernel, by decide +kernel⟩, List.mem_of_getElem? (i := 904) (by decide +kernel), List.mem_of_getElem? (i := 1333) (by decide +kernel), List.mem_of_getElem? (i := 1334) (by decide +kernel)⟩
theorem lw_p54 : lw_okq (⟨"CupsAndPeaModel", "isWord", "(J)Z"⟩, 31) := ⟨⟨by decide +kernel, by decide +kernel⟩, List.mem_of_getElem? (i := 904) (by decide +kernel), List.mem_of_getElem? (i := 1338) (by decide +kernel), List.mem_of_getElem? (i := 1339) (by decide +kernel)⟩
theorem lw_p55 : lw_okq (⟨"CupsAndPeaModel", "passHere", "(I)V"⟩, 31) := ⟨⟨by decide +kernel, by decide +kernel⟩, List.mem_of_getElem? (i := 904) (by decide +kernel), List.mem_of_getElem? (i := 1348) (by decide +kernel), List.mem_of_getElem? (i := 1349) (by decide +kernel)⟩
theorem lw_p56 : lw_okq (⟨"CupsAndPeaModel", "wrongHere", "()V"⟩, 31) := ⟨⟨by decide +kernel, by decide +kernel⟩, List.mem_of_getElem? (i := 904) (by decide +kernel), List.mem_of_getElem? (i := 1352) (by decide +kernel), List.mem_of_getElem? (i := 1353) (by decide +kernel)⟩
theorem lw_p57 : lw_okq (⟨"CupsAndPeaModel", "numberHere", "(II)I"⟩, 31) := ⟨⟨by decide +kernel, by decide +kernel⟩, List.mem_of_getElem? (i := 904) (by decide +kernel), List.mem_of_getElem? (i := 1356) (by decide +kernel), List.mem_of_getElem? (i := 1357) (by decide +kernel)⟩
theorem lw_p58 : lw_okq (⟨"CupsAndPeaModel", "peaHere", "()V"⟩, 31) := ⟨⟨by decide +kernel, by decide +kernel⟩, List.mem_of_getElem? (i := 904) (by decide +kernel), List.mem_of_getElem? (i := 1361) (by decide +kernel), List.mem_of_getElem? (i := 1362) (by decide +kernel)⟩
theorem lw_p59 : lw_okq (⟨"CupsAndPeaModel", "eyeHere", "()V"⟩, 31) := ⟨⟨by decide +kernel, by decide +kernel⟩, List.mem_of_getElem? (i := 904) (by decide +kernel), List.mem_of_getElem? (i := 1367) (by decide +kernel), List.mem_of_getElem? (i := 1368) (by decide +kernel)⟩
theorem lw_p60 : lw_okq (⟨"CupsAndPeaModel", "playerHere", "()V"⟩, 31) := ⟨⟨by decide +kernel, by decide +kernel⟩, List.mem_of_getElem? (i := 904) (by decide +kernel), List.mem_of_getElem? (i := 1373) (by decide +kernel), List.mem_of_getElem? (i := 1374) (by decide +kernel)⟩
theorem lw_p61 : lw_okq (⟨"CupsAndPeaModel", "whyNone", "(I)I"⟩, 31) := ⟨⟨by decide +kernel, by decide +kernel⟩, List.mem_of_getElem? (i := 904) (by decide +kernel), List.mem_of_getElem? (i := 1402) (by decide +kernel), List.mem_of_getElem? (i := 1403) (by decide +kernel)⟩
theorem lw_p62 : lw_okq (⟨"CupsAndPeaModel", "sumOf", "(II)I"⟩, 31) := ⟨⟨by decide +kernel, by decide +kernel⟩, List.mem_of_getElem? (i := 904) (by decide +kernel), List.mem_of_getElem? (i := 1434) (by decide +kernel), List.mem_of_getElem? (i := 1435) (by decide +kernel)⟩
theorem lw_p63 : lw_okq (⟨"CupsAndPeaModel", "holding", "()I"⟩, 31) := ⟨⟨by decide +kernel, by decide +kernel⟩, List.mem_of_getElem? (i := 904) (by decide +kernel), List.mem_of_getElem? (i := 1438) (by decide +kernel), List.mem_of_getElem? (i := 1439) (by decide +kernel)⟩
def lw_privs_4 : List (MethodName × Nat) := [(⟨"CupsAndPeaModel", "drawn", "()I"⟩, 31), (⟨"CupsAndPeaModel", "items", "()I"⟩, 31), (⟨"CupsAndPeaModel", "next", "()V"⟩, 31), (⟨"CupsAndPeaModel", "byteAt", "(I)I"⟩, 31), (⟨"CupsAndPeaModel", "item", "()V"⟩, 31), (⟨"CupsAndPeaModel", "kindHere", "()I"⟩, 31), (⟨"CupsAndPeaModel", "isWord", "(J)Z"⟩, 31), (⟨"CupsAndPeaModel", "passHere", "(I)V"⟩, 31), (⟨"CupsAndPeaModel", "wrongHere", "()V"⟩, 31), (⟨"CupsAndPeaModel", "numberHere", "(II)I"⟩, 31), (⟨"CupsAndPeaModel", "peaHere", "()V"⟩, 31), (⟨"CupsAndPeaModel", "eyeHere", "()V"⟩, 31), (⟨"CupsAndPeaModel", "playerHere", "()V"⟩, 31), (⟨"CupsAndPeaModel", "whyNone", "(I)I"⟩, 31), (⟨"CupsAndPeaModel", "sumOf", "(II)I"⟩, 31), (⟨"CupsAndPeaModel", "holding", "()I"⟩, 31)]
theorem lw_r4 : ∀ q ∈ lw_privs_4, lw_okq q := List.forall_mem_cons.mpr ⟨lw_p48, List.forall_mem_cons.mpr ⟨lw_p49, List.forall_mem_cons.mpr ⟨lw_p50, List.forall_mem_cons.mpr ⟨lw_p51, List.forall_mem_cons.mpr ⟨lw_p52, List.forall_mem_cons.mpr ⟨lw_p53, List.forall_mem_cons.mpr ⟨lw_p54, List.forall_mem_cons.mpr ⟨lw_p55, List.forall_mem_cons.mpr ⟨lw_p56, List.forall_mem_cons.mpr ⟨lw_p57, List.forall_mem_cons.mpr ⟨lw_p58, List.forall_mem_cons.mpr ⟨lw_p59, List.forall_mem_cons.mpr ⟨lw_p60, List.forall_mem_cons.mpr ⟨lw_p61, List.forall_mem_cons.mpr ⟨lw_p62, List.forall_mem_cons.mpr ⟨lw_p63, fun _ h => absurd h List.not_mem_nil⟩⟩⟩⟩⟩⟩⟩⟩⟩⟩⟩⟩⟩⟩⟩⟩
def lw_privs : List (MethodName × Nat) := lw_privs_1 ++ (lw_privs_2 ++ (lw_privs_3 ++ (lw_privs_4)))
def lw_tbl : List Cond := k2_sels lw_privs ++ tables_1
theorem lw_privs_ok : ∀ q ∈ lw_privs, lw_okq q := by
  show ∀ q ∈ lw_privs_1 ++ (lw_privs_2 ++ (lw_privs_3 ++ (lw_privs_4))), lw_okq q
  exact List.forall_mem_append.mpr ⟨lw_r1, List.forall_mem_append.mpr ⟨lw_r2, List.forall_mem_append.mpr ⟨lw_r3, lw_r4⟩⟩⟩
-- ===== end of PART A; then your names; then what follows =====
end
section
/-! A SMALL MACHINE, over whole numbers: what the bytecode of class, reference and law does on a heap of cells 1, 2, ..
    (0 is null). Its steps are in the style of continuations, so that a branch keeps both ways. Instr is used again as
    the table of small steps (resolved: fields, methods, constants, jump places are numbers): sipush is a long constant,
    ldc and getstatic name a thing that was there before (script, static row, text), fadd and fsub are min and max, swap
    is arraycopy, nop is Object's own <init>, dadd and dsub are a text's length and charAt, freturn a boolean's return. -/
abbrev zV : Type := Int ⊕ (Int ⊕ (Nat ⊕ Nat))
abbrev zMem : Type := (Nat → Nat → Int) × ((Nat → Nat → Nat) × ((Nat → Nat × (Nat × Nat)) × (Nat × Nat)))
abbrev zLoc : Type := List (Option zV)
abbrev zRes : Type := Option (Option zV × zMem)
abbrev zK : Type := Nat → zLoc → List zV → zMem → zRes
abbrev zC : Type := Nat → List zV → zMem → zRes
abbrev zX : Type := Nat → Nat × (Nat → Int)
def zcat : zV → Nat
  | .inr (.inl _) => 2
  | _ => 1
def w8 (x : Int) : Int := (x + 128) % 256 - 128
def w16 (x : Int) : Int := (x + 32768) % 65536 - 32768
def w32 (x : Int) : Int := (x + 2147483648) % 4294967296 - 2147483648
def w64 (x : Int) : Int := (x + 9223372036854775808) % 18446744073709551616 - 9223372036854775808
def zand (x y : Int) : Int := (Int32.ofInt x &&& Int32.ofInt y).toInt
def zor (x y : Int) : Int := (Int32.ofInt x ||| Int32.ofInt y).toInt
def zshl (x y : Int) : Int := w32 (x * 2 ^ (y % 32).toNat)
def zshr (x y : Int) : Int := x / 2 ^ (y % 32).toNat
def zushr (x y : Int) : Int := w32 (x % 4294967296 / 2 ^ (y % 32).toNat)
/-- a number of the heap is written -/
def zw (σ : zMem) (a j : Nat) (v : Int) : zMem := (fun a' j' => if a' = a ∧ j' = j then v else σ.1 a' j', σ.2)
/-- a reference of the heap is written -/
def zwr (σ : zMem) (a j : Nat) (v : Nat) : zMem := (σ.1, (fun a' j' => if a' = a ∧ j' = j then v else σ.2.1 a' j', σ.2.2))
/-- a cell more, of a kind, with so many slots -/
def zmake (σ : zMem) (k : Nat × (Nat × Nat)) (n : Nat) : zMem :=
  (fun a j => if a = σ.2.2.2.1 + 1 then 0 else σ.1 a j, (fun a j => if a = σ.2.2.2.1 + 1 then 0 else σ.2.1 a j, (fun a => if a = σ.2.2.2.1 + 1 then k else σ.2.2.1 a, (σ.2.2.2.1 + 1, σ.2.2.2.2 + n))))
/-- so many rows of longs more, and the row of them; its address is that of the next cell -/
def zmulti (σ : zMem) (n m : Nat) : zMem :=
  (fun a j => if a ≤ σ.2.2.2.1 then σ.1 a j else 0, (fun a j => if a = σ.2.2.2.1 + 1 then (if j < n then σ.2.2.2.1 + 2 + j else 0) else if a ≤ σ.2.2.2.1 then σ.2.1 a j else 0, (fun a => if a = σ.2.2.2.1 + 1 then (6, (n, 0)) else if a ≤ σ.2.2.2.1 then σ.2.2.1 a else if a ≤ σ.2.2.2.1 + 1 + n then (3, (m, 0)) else (0, (0, 0)), (σ.2.2.2.1 + 1 + n, σ.2.2.2.2 + n + n * m))))
/-- n numbers of a row come to another one -/
def zcopy (σ : zMem) (src sp dst dp n : Nat) : zMem := (fun a j => if a = dst ∧ dp ≤ j ∧ j < dp + n then σ.1 src (sp + (j - dp)) else σ.1 a j, σ.2)
/-- a local that is stored into frees what stood across it -/
def zkill (ls : zLoc) (i : Nat) : zLoc := match i with
  | 0 => ls
  | j + 1 => match ls[j]? with
    | some (some (.inr (.inl _))) => ls.set j none
    | _ => ls
def zpop : Nat → List zV → List zV → Option (List zV × List zV)
  | 0, st, acc => some (acc, st)
  | n + 1, v :: st, acc => zpop n st (v :: acc)
  | _ + 1, [], _ => none
def zlook : List (Int × Int) → Int → Int → Int
  | [], d, _ => d
  | (a, t) :: l, d, z => if z = a then t else zlook l d z
def zcmp (x y : Int) : Int := if x < y then -1 else if x = y then 0 else 1
/-- one step; nx is the place of the next instruction, k what goes on from a place -/
def zstep (X : zX) (C : zC) (i : Instr) (ls : zLoc) (st : List zV) (σ : zMem) (nx : Nat) (k : zK) : zRes :=
  match i with
  | .iconst n => k nx ls (.inl n :: st) σ
  | .sipush n => k nx ls (.inr (.inl n) :: st) σ
  | .ldc j => k nx ls (.inr (.inr (.inr j)) :: st) σ
  | .getstatic j => k nx ls (.inr (.inr (.inr j)) :: st) σ
  | .iload i => match ls[i]? with
    | some (some (.inl z)) => k nx ls (.inl z :: st) σ
    | _ => none
  | .lload i => match ls[i]? with
    | some (some (.inr (.inl z))) => k nx ls (.inr (.inl z) :: st) σ
    | _ => none
  | .aload i => match ls[i]? with
    | some (some (.inr (.inr z))) => k nx ls (.inr (.inr z) :: st) σ
    | _ => none
  | .istore i => match st with
    | .inl z :: r => match Nat.blt i ls.length with
      | true => k nx ((zkill ls i).set i (some (.inl z))) r σ
      | false => none
    | _ => none
  | .lstore i => match st with
    | .inr (.inl z) :: r => match Nat.blt (i + 1) ls.length with
      | true => k nx (((zkill ls i).set i (some (.inr (.inl z)))).set (i + 1) none) r σ
      | false => none
    | _ => none
  | .astore i => match st with
    | .inr (.inr (.inl z)) :: r => match Nat.blt i ls.length with
      | true => k nx ((zkill ls i).set i (some (.inr (.inr (.inl z))))) r σ
      | false => none
    | _ => none
  | .iinc i c => match ls[i]? with
    | some (some (.inl z)) => k nx ((zkill ls i).set i (some (.inl (w32 (z + c))))) st σ
    | _ => none
  | .iadd => match st with
    | .inl y :: .inl x :: r => k nx ls (.inl (w32 (x + y)) :: r) σ
    | _ => none
  | .isub => match st with
    | .inl y :: .inl x :: r => k nx ls (.inl (w32 (x - y)) :: r) σ
    | _ => none
  | .imul => match st with
    | .inl y :: .inl x :: r => k nx ls (.inl (w32 (x * y)) :: r) σ
    | _ => none
  | .idiv => match st with
    | .inl y :: .inl x :: r => if y = 0 then none else k nx ls (.inl (w32 (x.tdiv y)) :: r) σ
    | _ => none
  | .irem => match st with
    | .inl y :: .inl x :: r => if y = 0 then none else k nx ls (.inl (x.tmod y) :: r) σ
    | _ => none
  | .iand => match st with
    | .inl y :: .inl x :: r => k nx ls (.inl (zand x y) :: r) σ
    | _ => none
  | .ior => match st with
    | .inl y :: .inl x :: r => k nx ls (.inl (zor x y) :: r) σ
    | _ => none
  | .ishl => match st with
    | .inl y :: .inl x :: r => k nx ls (.inl (zshl x y) :: r) σ
    | _ => none
  | .ishr => match st with
    | .inl y :: .inl x :: r => k nx ls (.inl (zshr x y) :: r) σ
    | _ => none
  | .iushr => match st with
    | .inl y :: .inl x :: r => k nx ls (.inl (zushr x y) :: r) σ
    | _ => none
  | .i2l => match st with
    | .inl x :: r => k nx ls (.inr (.inl x) :: r) σ
    | _ => none
  | .l2i => match st with
    | .inr (.inl x) :: r => k nx ls (.inl (w32 x) :: r) σ
    | _ => none
  | .i2b => match st with
    | .inl x :: r => k nx ls (.inl (w8 x) :: r) σ
    | _ => none
  | .i2s => match st with
    | .inl x :: r => k nx ls (.inl (w16 x) :: r) σ
    | _ => none
  | .ladd => match st with
    | .inr (.inl y) :: .inr (.inl x) :: r => k nx ls (.inr (.inl (w64 (x + y))) :: r) σ
    | _ => none
  | .lsub => match st with
    | .inr (.inl y) :: .inr (.inl x) :: r => k nx ls (.inr (.inl (w64 (x - y))) :: r) σ
    | _ => none
  | .lmul => match st with
    | .inr (.inl y) :: .inr (.inl x) :: r => k nx ls (.inr (.inl (w64 (x * y))) :: r) σ
    | _ => none
  | .lcmp => match st with
    | .inr (.inl y) :: .inr (.inl x) :: r => k nx ls (.inl (zcmp x y) :: r) σ
    | _ => none
  | .dup => match st with
    | .inl x :: r => k nx ls (.inl x :: .inl x :: r) σ
    | .inr (.inr x) :: r => k nx ls (.inr (.inr x) :: .inr (.inr x) :: r) σ
    | _ => none
  | .dup2 => match st with
    | .inr (.inl x) :: r => k nx ls (.inr (.inl x) :: .inr (.inl x) :: r) σ
    | .inl x :: .inr (.inr y) :: r => k nx ls (.inl x :: .inr (.inr y) :: .inl x :: .inr (.inr y) :: r) σ
    | _ => none
  | .pop => match st with
    | .inl _ :: r => k nx ls r σ
    | .inr (.inr _) :: r => k nx ls r σ
    | _ => none
  | .ifCond c t => match st with
    | .inl x :: r => match c with
      | .eq => if x = 0 then k t.toNat ls r σ else k nx ls r σ
      | .ne => if x = 0 then k nx ls r σ else k t.toNat ls r σ
      | .lt => if x < 0 then k t.toNat ls r σ else k nx ls r σ
      | .ge => if x < 0 then k nx ls r σ else k t.toNat ls r σ
      | .gt => if 0 < x then k t.toNat ls r σ else k nx ls r σ
      | .le => if 0 < x then k nx ls r σ else k t.toNat ls r σ
    | _ => none
  | .if_icmp c t => match st with
    | .inl y :: .inl x :: r => match c with
      | .eq => if x = y then k t.toNat ls r σ else k nx ls r σ
      | .ne => if x = y then k nx ls r σ else k t.toNat ls r σ
      | .lt => if x < y then k t.toNat ls r σ else k nx ls r σ
      | .ge => if x < y then k nx ls r σ else k t.toNat ls r σ
      | .gt => if y < x then k t.toNat ls r σ else k nx ls r σ
      | .le => if y < x then k nx ls r σ else k t.toNat ls r σ
    | _ => none
  | .goto t => k t.toNat ls st σ
  | .tableswitch d lo hi ts => match st with
    | .inl x :: r => if x < lo then k d.toNat ls r σ else if hi < x then k d.toNat ls r σ else match ts.toList[(x - lo).toNat]? with
      | some t => k t.toNat ls r σ
      | none => none
    | _ => none
  | .lookupswitch d ps => match st with
    | .inl x :: r => k (zlook ps.toList d x).toNat ls r σ
    | _ => none
  | .getfield n => match st with
    | .inr (.inr (.inl a)) :: r => if σ.2.2.1 a = (1, (n / 256, 0)) then match n % 4 with
        | 1 => k nx ls (.inr (.inl (σ.1 a (n / 4 % 64))) :: r) σ
        | 3 => k nx ls (.inr (.inr (.inl (σ.2.1 a (n / 4 % 64)))) :: r) σ
        | _ => k nx ls (.inl (σ.1 a (n / 4 % 64)) :: r) σ
      else none
    | _ => none
  | .putfield n => match st with
    | .inl v :: .inr (.inr (.inl a)) :: r => if σ.2.2.1 a = (1, (n / 256, 0)) then match n % 4 with
        | 0 => k nx ls r (zw σ a (n / 4 % 64) v)
        | 2 => if v = 0 ∨ v = 1 then k nx ls r (zw σ a (n / 4 % 64) v) else none
        | _ => none
      else none
    | .inr (.inl v) :: .inr (.inr (.inl a)) :: r => if σ.2.2.1 a = (1, (n / 256, 0)) then match n % 4 with
        | 1 => k nx ls r (zw σ a (n / 4 % 64) v)
        | _ => none
      else none
    | .inr (.inr (.inl v)) :: .inr (.inr (.inl a)) :: r => if σ.2.2.1 a = (1, (n / 256, 0)) then match n % 4 with
        | 3 => k nx ls r (zwr σ a (n / 4 % 64) v)
        | _ => none
      else none
    | _ => none
  | .iaload => match st with
    | .inl i :: .inr (.inr (.inl a)) :: r => if (σ.2.2.1 a).1 = 2 ∧ 0 ≤ i ∧ i < (σ.2.2.1 a).2.1 then k nx ls (.inl (σ.1 a i.toNat) :: r) σ else none
    | .inl i :: .inr (.inr (.inr j)) :: r => if 0 ≤ i ∧ i < (X j).1 then k nx ls (.inl ((X j).2 i.toNat) :: r) σ else none
    | _ => none
  | .laload => match st with
    | .inl i :: .inr (.inr (.inl a)) :: r => if (σ.2.2.1 a).1 = 3 ∧ 0 ≤ i ∧ i < (σ.2.2.1 a).2.1 then k nx ls (.inr (.inl (σ.1 a i.toNat)) :: r) σ else none
    | _ => none
  | .baload => match st with
    | .inl i :: .inr (.inr (.inl a)) :: r => if (σ.2.2.1 a).1 = 4 ∧ 0 ≤ i ∧ i < (σ.2.2.1 a).2.1 then k nx ls (.inl (σ.1 a i.toNat) :: r) σ else none
    | _ => none
  | .aaload => match st with
    | .inl i :: .inr (.inr (.inl a)) :: r => if ((σ.2.2.1 a).1 = 5 ∨ (σ.2.2.1 a).1 = 6) ∧ 0 ≤ i ∧ i < (σ.2.2.1 a).2.1 then k nx ls (.inr (.inr (.inl (σ.2.1 a i.toNat))) :: r) σ else none
    | _ => none
  | .iastore => match st with
    | .inl v :: .inl i :: .inr (.inr (.inl a)) :: r => if (σ.2.2.1 a).1 = 2 ∧ 0 ≤ i ∧ i < (σ.2.2.1 a).2.1 then k nx ls r (zw σ a i.toNat v) else none
    | _ => none
  | .lastore => match st with
    | .inr (.inl v) :: .inl i :: .inr (.inr (.inl a)) :: r => if (σ.2.2.1 a).1 = 3 ∧ 0 ≤ i ∧ i < (σ.2.2.1 a).2.1 then k nx ls r (zw σ a i.toNat v) else none
    | _ => none
  | .bastore => match st with
    | .inl v :: .inl i :: .inr (.inr (.inl a)) :: r => if (σ.2.2.1 a).1 = 4 ∧ 0 ≤ i ∧ i < (σ.2.2.1 a).2.1 then k nx ls r (zw σ a i.toNat (w8 v)) else none
    | _ => none
  | .aastore => match st with
    | .inr (.inr (.inl v)) :: .inl i :: .inr (.inr (.inl a)) :: r => if (σ.2.2.1 a).1 = 5 ∧ 0 ≤ i ∧ i < (σ.2.2.1 a).2.1 ∧ σ.2.2.1 v = (1, ((σ.2.2.1 a).2.2, 0)) then k nx ls r (zwr σ a i.toNat v) else none
    | _ => none
  | .arraylength => match st with
    | .inr (.inr (.inr j)) :: r => k nx ls (.inl (X j).1 :: r) σ
    | _ => none
  | .new n => k nx ls (.inr (.inr (.inl (σ.2.2.2.1 + 1))) :: st) (zmake σ (1, (n / 256, 0)) (n % 256))
  | .newarray t => match st with
    | .inl n :: r => if 0 ≤ n ∧ n ≤ 100000 then match t with
        | .int => k nx ls (.inr (.inr (.inl (σ.2.2.2.1 + 1))) :: r) (zmake σ (2, (n.toNat, 0)) n.toNat)
        | .long => k nx ls (.inr (.inr (.inl (σ.2.2.2.1 + 1))) :: r) (zmake σ (3, (n.toNat, 0)) n.toNat)
        | .byte => k nx ls (.inr (.inr (.inl (σ.2.2.2.1 + 1))) :: r) (zmake σ (4, (n.toNat, 0)) n.toNat)
        | _ => none
      else none
    | _ => none
  | .anewarray c => match st with
    | .inl n :: r => if 0 ≤ n ∧ n ≤ 100000 then k nx ls (.inr (.inr (.inl (σ.2.2.2.1 + 1))) :: r) (zmake σ (5, (n.toNat, c)) n.toNat) else none
    | _ => none
  | .multianewarray _ _ => match st with
    | .inl m :: .inl n :: r => if 0 ≤ n ∧ n ≤ 1000 ∧ 0 ≤ m ∧ m ≤ 1000 then k nx ls (.inr (.inr (.inl (σ.2.2.2.1 + 1))) :: r) (zmulti σ n.toNat m.toNat) else none
    | _ => none
  | .invokevirtual n => match zpop (n % 16) st [] with
    | some (.inr (.inr (.inl a)) :: as, r) => match Nat.ble ((r.map zcat).sum) 8 with
      | true => if σ.2.2.1 a = (1, (n / 16 % 64, 0)) then (C (n / 1024) (.inr (.inr (.inl a)) :: as) σ).bind fun q => k nx ls (q.1.toList ++ r) q.2 else none
      | false => none
    | _ => none
  | .invokestatic n => match zpop (n % 16) st [] with
    | some (as, r) => match Nat.ble ((r.map zcat).sum) 8 with
      | true => (C (n / 1024) as σ).bind fun q => k nx ls (q.1.toList ++ r) q.2
      | false => none
    | _ => none
  | .fadd => match st with
    | .inl y :: .inl x :: r => match Nat.ble ((r.map zcat).sum) 8 with
      | true => k nx ls (.inl (if y < x then y else x) :: r) σ
      | false => none
    | _ => none
  | .fsub => match st with
    | .inl y :: .inl x :: r => match Nat.ble ((r.map zcat).sum) 8 with
      | true => k nx ls (.inl (if x < y then y else x) :: r) σ
      | false => none
    | _ => none
  | .swap => match st with
    | .inl n :: .inl dp :: .inr (.inr (.inl dst)) :: .inl sp :: .inr (.inr (.inl src)) :: r => match Nat.ble ((r.map zcat).sum) 8 with
      | true => if (σ.2.2.1 src).1 = 2 ∧ (σ.2.2.1 dst).1 = 2 ∧ 0 ≤ sp ∧ 0 ≤ dp ∧ 0 ≤ n ∧ sp + n ≤ (σ.2.2.1 src).2.1 ∧ dp + n ≤ (σ.2.2.1 dst).2.1 then k nx ls r (zcopy σ src sp.toNat dst dp.toNat n.toNat) else none
      | false => none
    | _ => none
  | .nop => match st with
    | .inr (.inr (.inl _)) :: r => match Nat.ble ((r.map zcat).sum) 8 with
      | true => k nx ls r σ
      | false => none
    | _ => none
  | .dadd => match st with
    | .inr (.inr (.inr j)) :: r => match Nat.ble ((r.map zcat).sum) 8 with
      | true => if 4 ≤ j then k nx ls (.inl (X j).1 :: r) σ else none
      | false => none
    | _ => none
  | .dsub => match st with
    | .inl i :: .inr (.inr (.inr j)) :: r => match Nat.ble ((r.map zcat).sum) 8 with
      | true => if 4 ≤ j ∧ 0 ≤ i ∧ i < (X j).1 then k nx ls (.inl ((X j).2 i.toNat) :: r) σ else none
      | false => none
    | _ => none
  | .ireturn => match st with
    | [.inl z] => some (some (.inl z), σ)
    | _ => none
  | .freturn => match st with
    | [.inl z] => if z = 0 ∨ z = 1 then some (some (.inl z), σ) else none
    | _ => none
  | .lreturn => match st with
    | [.inr (.inl z)] => some (some (.inr (.inl z)), σ)
    | _ => none
  | .areturn => match st with
    | [.inr (.inr z)] => some (some (.inr (.inr z)), σ)
    | _ => none
  | .return_ => match st with
    | [] => some (none, σ)
    | _ => none
  | _ => none
/-- a place of the code -/
def zfind : List (Nat × (Instr × Nat)) → Nat → Option (Instr × Nat)
  | [], _ => none
  | (p, q) :: l, pc => match Nat.beq p pc with
    | true => some q
    | false => zfind l pc
def zrun (X : zX) (C : zC) (code : List (Nat × (Instr × Nat))) : Nat → zK
  | 0 => fun _ _ _ _ => none
  | n + 1 => fun pc ls st σ => match zfind code pc with
    | none => none
    | some (i, nx) => zstep X C i ls st σ nx (zrun X C code n)
def zargs : List zV → zLoc
  | [] => []
  | v :: r => match v with
    | .inr (.inl _) => some v :: none :: zargs r
    | _ => some v :: zargs r
def zinit (as : List zV) (nl : Nat) : zLoc := zargs as ++ List.replicate (nl - (zargs as).length) none
/-- what comes out of some of them (they agree) -/
noncomputable def zlim {α : Type} (f : Nat → Option α) : Option α := @dite (Option α) (∃ n r, f n = some r) (Classical.propDecidable _) (fun h => f (Classical.choose h)) (fun _ => none)
theorem zlim_of {α : Type} {f : Nat → Option α} (hm : ∀ n r, f n = some r → f (n + 1) = some r) {n : Nat} {r : α} (h : f n = some r) : zlim f = some r := by
  have up : ∀ (k n : Nat) (r : α), f n = some r → f (n + k) = some r := by
    intro k
    induction k with
    | zero => intro n r h; exact h
    | succ k ih => intro n r h; exact hm _ _ (ih n r h)
  have hx : ∃ n r, f n = some r := ⟨n, r, h⟩
  unfold zlim
  rw [dif_pos hx]
  obtain ⟨r', h'⟩ := Classical.choose_spec hx
  have h1 := up n _ _ h'
  have h2 := up (Classical.choose hx) _ _ h
  rw [Nat.add_comm] at h2
  rw [h', ← h1, h2]
theorem zlim_get {α : Type} {f : Nat → Option α} {r : α} (h : zlim f = some r) : ∃ n, f n = some r := by
  unfold zlim at h
  split at h
  · exact ⟨_, h⟩
  · cases h
/-- the table of the methods: how many locals, the code -/
abbrev zT : Type := Nat → Option (Nat × List (Nat × (Instr × Nat)))
noncomputable def zcall (X : zX) (P : zT) : Nat → zC
  | 0 => fun _ _ _ => none
  | d + 1 => fun y as σ => match P y with
    | none => none
    | some q => zlim (fun n => zrun X (zcall X P d) q.2 n 0 (zinit as q.1) [] σ)
/-- the same, with so many steps for each method: to be counted out -/
def zcallF (X : zX) (P : zT) (F : Nat) : Nat → zC
  | 0 => fun _ _ _ => none
  | d + 1 => fun y as σ => match P y with
    | none => none
    | some q => zrun X (zcallF X P F d) q.2 F 0 (zinit as q.1) [] σ
set_option maxHeartbeats 4000000 in
theorem zstep_mono {X : zX} {C C' : zC} {i : Instr} {ls : zLoc} {st : List zV} {σ : zMem} {nx : Nat} {k k' : zK} {r : Option zV × zMem} (hC : ∀ y as σ r, C y as σ = some r → C' y as σ = some r) (hk : ∀ pc ls st σ r, k pc ls st σ = some r → k' pc ls st σ = some r) (h : zstep X C i ls st σ nx k = some r) : zstep X C' i ls st σ nx k' = some r := by
  cases i
  all_goals simp only [zstep] at h ⊢
  all_goals (repeat' split at h)
  all_goals first
    | (cases h; done)
    | exact hk _ _ _ _ _ h
    | exact h
    | (simp only [*, if_true, if_false, not_true_eq_false, not_false_eq_true, and_self, or_true, true_or] at h ⊢; exact hk _ _ _ _ _ h)
    | (simp only [*, if_true, if_false, not_true_eq_false, not_false_eq_true, and_self, or_true, true_or] at h ⊢; exact h)
    | (obtain ⟨q, h1, h2⟩ := Option.bind_eq_some_iff.mp h
       simp only [*, if_true, if_false]
       exact Option.bind_eq_some_iff.mpr ⟨q, hC _ _ _ _ h1, hk _ _ _ _ _ h2⟩)
    | (simp only [*]
       exact Option.bind_eq_some_iff.mpr ((Option.bind_eq_some_iff.mp h).imp fun q hq => ⟨hC _ _ _ _ hq.1, hk _ _ _ _ _ hq.2⟩))
    | (rw [if_pos (by assumption)]; exact h)
    | (simp_all only [Option.bind_eq_some_iff]
       exact h.imp fun q hq => ⟨hC _ _ _ _ hq.1, hk _ _ _ _ _ hq.2⟩)
theorem zrun_mono {X : zX} {C C' : zC} (hC : ∀ y as σ r, C y as σ = some r → C' y as σ = some r) {code : List (Nat × (Instr × Nat))} : ∀ (n m : Nat), n ≤ m → ∀ (pc : Nat) (ls : zLoc) (st : List zV) (σ : zMem) (r : Option zV × zMem), zrun X C code n pc ls st σ = some r → zrun X C' code m pc ls st σ = some r := by
  intro n
  induction n with
  | zero => intro m _ pc ls st σ r h; cases h
  | succ n ih =>
    intro m hm pc ls st σ r h
    cases m with
    | zero => exact absurd hm (by omega)
    | succ m =>
      simp only [zrun] at h ⊢
      cases hf : zfind code pc with
      | none => rw [hf] at h; cases h
      | some q =>
        rw [hf] at h
        exact zstep_mono hC (fun pc ls st σ r h => ih m (by omega) pc ls st σ r h) h
theorem zcall_of {X : zX} {P : zT} {d y nl n : Nat} {code : List (Nat × (Instr × Nat))} {as : List zV} {σ : zMem} {r : Option zV × zMem} (hP : P y = some (nl, code)) (h : zrun X (zcall X P d) code n 0 (zinit as nl) [] σ = some r) : zcall X P (d + 1) y as σ = some r := by
  simp only [zcall, hP]
  exact zlim_of (fun n r h => zrun_mono (fun _ _ _ _ h => h) n (n + 1) (by omega) _ _ _ _ _ h) h
theorem zcall_get {X : zX} {P : zT} {d y : Nat} {as : List zV} {σ : zMem} {r : Option zV × zMem} (h : zcall X P (d + 1) y as σ = some r) : ∃ nl code n, P y = some (nl, code) ∧ zrun X (zcall X P d) code n 0 (zinit as nl) [] σ = some r := by
  simp only [zcall] at h
  cases hP : P y with
  | none => rw [hP] at h; cases h
  | some q =>
    rw [hP] at h
    obtain ⟨n, hn⟩ := zlim_get h
    exact ⟨q.1, q.2, n, rfl, hn⟩
theorem zcallF_call {X : zX} {P : zT} {F : Nat} : ∀ (d y : Nat) (as : List zV) (σ : zMem) (r : Option zV × zMem), zcallF X P F d y as σ = some r → zcall X P d y as σ = some r := by
  intro d
  induction d with
  | zero => intro y as σ r h; cases h
  | succ d ih =>
    intro y as σ r h
    simp only [zcallF] at h
    cases hP : P y with
    | none => rw [hP] at h; cases h
    | some q =>
      rw [hP] at h
      exact zcall_of hP (zrun_mono ih F F (Nat.le_refl F) _ _ _ _ _ h)
theorem zcall_up {X : zX} {P : zT} : ∀ (d y : Nat) (as : List zV) (σ : zMem) (r : Option zV × zMem), zcall X P d y as σ = some r → zcall X P (d + 1) y as σ = some r := by
  intro d
  induction d with
  | zero => intro y as σ r h; cases h
  | succ d ih =>
    intro y as σ r h
    obtain ⟨nl, code, n, hP, hn⟩ := zcall_get h
    exact zcall_of hP (zrun_mono ih n n (Nat.le_refl n) _ _ _ _ _ hn)
end
section
/-! THE MACHINE'S NUMBERS as whole numbers. -/
theorem zn_w32 (x : Int) : x.bmod (2 ^ 32) = w32 x := by
  unfold w32 Int.bmod
  simp only [show ((2 ^ 32 : Nat) : Int) = 4294967296 from rfl]
  split <;> omega
theorem zn_w64 (x : Int) : x.bmod (2 ^ 64) = w64 x := by
  unfold w64 Int.bmod
  simp only [show ((2 ^ 64 : Nat) : Int) = 18446744073709551616 from rfl]
  split <;> omega
theorem zn_w8 (x : Int) : x.bmod (2 ^ 8) = w8 x := by
  unfold w8 Int.bmod
  simp only [show ((2 ^ 8 : Nat) : Int) = 256 from rfl]
  split <;> omega
theorem zn_w16 (x : Int) : x.bmod (2 ^ 16) = w16 x := by
  unfold w16 Int.bmod
  simp only [show ((2 ^ 16 : Nat) : Int) = 65536 from rfl]
  split <;> omega
theorem zn_in (x : Int32) : -2147483648 ≤ x.toInt ∧ x.toInt < 2147483648 := ⟨by have := Int32.le_toInt x; simpa using this, by have := Int32.toInt_lt x; simpa using this⟩
theorem zn_inL (x : Int64) : -9223372036854775808 ≤ x.toInt ∧ x.toInt < 9223372036854775808 := ⟨by have := Int64.le_toInt x; simpa using this, by have := Int64.toInt_lt x; simpa using this⟩
theorem zn_add (x y : Int32) : (x + y).toInt = w32 (x.toInt + y.toInt) := by rw [Int32.toInt_add, zn_w32]
theorem zn_sub (x y : Int32) : (x - y).toInt = w32 (x.toInt - y.toInt) := by rw [Int32.toInt_sub, zn_w32]
theorem zn_mul (x y : Int32) : (x * y).toInt = w32 (x.toInt * y.toInt) := by rw [Int32.toInt_mul, zn_w32]
theorem zn_div (x y : Int32) : (x / y).toInt = w32 (x.toInt.tdiv y.toInt) := by rw [Int32.toInt_div, zn_w32]
theorem zn_ofInt (n : Int) : (Int32.ofInt n).toInt = w32 n := by rw [Int32.toInt_ofInt, zn_w32]
theorem zn_ofIntIn {n : Int} (h : -2147483648 ≤ n) (h2 : n < 2147483648) : (Int32.ofInt n).toInt = n := by rw [zn_ofInt]; unfold w32; omega
theorem zn_w32id {n : Int} (h : -2147483648 ≤ n) (h2 : n < 2147483648) : w32 n = n := by unfold w32; omega
theorem zn_w64id {n : Int} (h : -9223372036854775808 ≤ n) (h2 : n < 9223372036854775808) : w64 n = n := by unfold w64; omega
theorem zn_eq0 (y : Int32) : y = 0 ↔ y.toInt = 0 := by rw [← Int32.toInt_inj]; rfl
theorem zn_rem (x y : Int32) (hy : ¬ y.toInt = 0) : (x - x / y * y).toInt = x.toInt.tmod y.toInt := by
  have h : (x - x / y * y).toInt = w32 (x.toInt - x.toInt.tdiv y.toInt * y.toInt) := by
    rw [zn_sub, zn_mul, zn_div]
    unfold w32
    generalize x.toInt.tdiv y.toInt = q
    generalize hz : y.toInt = z
    have e1 : (q + 2147483648) % 4294967296 - 2147483648 = q - 4294967296 * ((q + 2147483648) / 4294967296) := by omega
    rw [e1, Int.sub_mul]
    generalize ((q + 2147483648) / 4294967296) = t
    have e2 : 4294967296 * t * z = 4294967296 * (t * z) := by rw [Int.mul_assoc]
    rw [e2]
    generalize t * z = v
    generalize q * z = w
    omega
  rw [h]
  have h2 : x.toInt - x.toInt.tdiv y.toInt * y.toInt = x.toInt.tmod y.toInt := by
    have := Int.tmod_add_tdiv_mul x.toInt y.toInt
    have e : x.toInt.tdiv y.toInt * y.toInt = y.toInt * x.toInt.tdiv y.toInt := Int.mul_comm _ _
    first | omega | (rw [Int.mul_comm] at this; omega)
  rw [h2]
  have hb : x.toInt.tmod y.toInt = (x % y).toInt := (Int32.toInt_mod x y).symm
  rw [hb]
  have := zn_in (x % y)
  exact zn_w32id this.1 this.2
theorem zn_and (x y : Int32) : (x &&& y).toInt = zand x.toInt y.toInt := by unfold zand; rw [Int32.ofInt_toInt, Int32.ofInt_toInt]
theorem zn_or (x y : Int32) : (x ||| y).toInt = zor x.toInt y.toInt := by unfold zor; rw [Int32.ofInt_toInt, Int32.ofInt_toInt]
theorem zn_bv (x : Int32) : x.toInt = ((x.toBitVec.toNat : Int) + 2147483648) % 4294967296 - 2147483648 := by
  have h : x.toInt = x.toBitVec.toInt := rfl
  rw [h, BitVec.toInt_eq_toNat_bmod, zn_w32]
  rfl
theorem zn_amt (y : Int32) : y &&& 31 = nI (y.toInt % 32).toNat := by
  rw [pk_and y (m := 31) 5 (by decide)]
  congr 1
  rw [zn_bv y]
  have := y.toBitVec.isLt
  omega
theorem zn_amtk (y : Int32) : ((y &&& 31).toBitVec.smod 32).toNat = (y.toInt % 32).toNat := by
  rw [zn_amt y]
  have h : (y.toInt % 32).toNat < 32 := by omega
  generalize (y.toInt % 32).toNat = n at h
  revert n
  decide +kernel
theorem zn_shl (x y : Int32) : (x <<< (y &&& 31)).toInt = zshl x.toInt y.toInt := by
  unfold zshl
  rw [zn_bv, pk_shl x (y &&& 31) _ (zn_amtk y), zn_bv x]
  generalize x.toBitVec.toNat = a
  generalize (y.toInt % 32).toNat = k
  unfold w32
  have e : ((a * 2 ^ k % 2 ^ 32 : Nat) : Int) = ((a : Int) * 2 ^ k) % 4294967296 := by
    rw [Int.natCast_emod, Int.natCast_mul, Int.natCast_pow]
    rfl
  rw [e, Int.sub_mul]
  have e1 : ((a : Int) + 2147483648) % 4294967296 = (a : Int) + 2147483648 - 4294967296 * (((a : Int) + 2147483648) / 4294967296) := by omega
  rw [e1, Int.sub_mul, Int.add_mul]
  generalize (((a : Int) + 2147483648) / 4294967296) = t
  have e2 : 4294967296 * t * 2 ^ k = 4294967296 * (t * 2 ^ k) := by rw [Int.mul_assoc]
  rw [e2]
  generalize t * 2 ^ k = v
  generalize (a : Int) * 2 ^ k = w
  generalize (2147483648 : Int) * 2 ^ k = u
  omega
theorem zn_shr (x y : Int32) : (x >>> (y &&& 31)).toInt = zshr x.toInt y.toInt := by
  unfold zshr
  rw [pk_shr x (y &&& 31) _ (zn_amtk y), Int.shiftRight_eq_div_pow]
  simp
theorem zn_uamt (y : Int32) : ((y.toUInt32 &&& Int32.toUInt32 31).toBitVec % 32).toNat = (y.toInt % 32).toNat := by
  have h1 : (y.toUInt32 &&& Int32.toUInt32 31) = (y &&& 31).toUInt32 := rfl
  rw [h1, zn_amt y]
  have h : (y.toInt % 32).toNat < 32 := by omega
  generalize (y.toInt % 32).toNat = n at h
  revert n
  decide +kernel
theorem zn_ushr (x y : Int32) : (x.toUInt32 >>> (y.toUInt32 &&& Int32.toUInt32 31)).toInt32.toInt = zushr x.toInt y.toInt := by
  unfold zushr
  rw [zn_bv, pk_ushr x y _ (zn_uamt y)]
  have e : x.toInt % 4294967296 = (x.toBitVec.toNat : Int) := by
    rw [zn_bv x]
    have := x.toBitVec.isLt
    omega
  rw [e]
  unfold w32
  rw [Int.natCast_ediv, Int.natCast_pow]
  rfl
theorem zn_i2b (x : Int32) : x.toInt8.toInt32.toInt = w8 x.toInt := by
  rw [Int8.toInt_toInt32, Int32.toInt_toInt8, zn_w8]
theorem zn_i2s (x : Int32) : x.toInt16.toInt32.toInt = w16 x.toInt := by
  rw [Int16.toInt_toInt32, Int32.toInt_toInt16, zn_w16]
theorem zn_i2l (x : Int32) : x.toInt64.toInt = x.toInt := Int32.toInt_toInt64 x
theorem zn_l2i (x : Int64) : x.toInt32.toInt = w32 x.toInt := by rw [Int64.toInt_toInt32, zn_w32]
theorem zn_ladd (x y : Int64) : (x + y).toInt = w64 (x.toInt + y.toInt) := by rw [Int64.toInt_add, zn_w64]
theorem zn_lsub (x y : Int64) : (x - y).toInt = w64 (x.toInt - y.toInt) := by rw [Int64.toInt_sub, zn_w64]
theorem zn_lmul (x y : Int64) : (x * y).toInt = w64 (x.toInt * y.toInt) := by rw [Int64.toInt_mul, zn_w64]
theorem zn_lcmp (x y : Int64) : (lg_cmp x y).toInt = zcmp x.toInt y.toInt := by
  unfold lg_cmp zcmp
  by_cases h1 : x.toInt < y.toInt
  · rw [if_neg (by rw [gt_iff_lt, Int64.lt_iff_toInt_lt]; omega), if_neg (by rw [← Int64.toInt_inj]; omega), if_pos h1]
    rfl
  · by_cases h2 : x.toInt = y.toInt
    · rw [if_neg (by rw [gt_iff_lt, Int64.lt_iff_toInt_lt]; omega), if_pos (by rw [← Int64.toInt_inj]; exact h2), if_neg h1, if_pos h2]
      rfl
    · rw [if_pos (by rw [gt_iff_lt, Int64.lt_iff_toInt_lt]; omega), if_neg h1, if_neg h2]
      rfl
theorem zn_lt (x y : Int32) : x < y ↔ x.toInt < y.toInt := Int32.lt_iff_toInt_lt
theorem zn_eq (x y : Int32) : x = y ↔ x.toInt = y.toInt := Int32.toInt_inj.symm
theorem zn_lt0 (x : Int32) : x < 0 ↔ x.toInt < 0 := by rw [zn_lt]; rfl
theorem zn_0lt (x : Int32) : 0 < x ↔ 0 < x.toInt := by rw [zn_lt]; rfl
theorem zn_clamp {x : Int32} (h : 0 ≤ x.toInt) : x.toNatClampNeg = x.toInt.toNat := rfl
theorem zn_vpin {x : Int32} {n : Nat} (h : 0 ≤ x.toInt) (h2 : x.toInt < n) : vp_in x n := vp_in_iff.mpr ⟨h, h2⟩
theorem zn_bool {x : Int32} (h : x.toInt = 0 ∨ x.toInt = 1) : narrow .boolean (.int x) = .int x ∧ fits .boolean (.int x) = true := by
  rcases h with h | h
  · have : x = 0 := (zn_eq x 0).mpr (by rw [h]; rfl)
    subst this
    decide +kernel
  · have : x = 1 := (zn_eq x 1).mpr (by rw [h]; rfl)
    subst this
    decide +kernel
end
section
/-! THE TABLES OF THE LANDED CLASS, the reference and the law for the small machine: written by program (wip/whole/emit.py) out of the printed task. -/
def zR0 : String := "CupsAndPea$Eye"
def zT0 : u_T := fun k => match k with
  | 0 => ("CupsAndPea$Eye", "slip", "I", false)
  | _ => ("CupsAndPea$Eye", "begin", "I", false)
def zR1 : String := "CupsAndPea$Orders"
def zT1 : u_T := fun k => match k with
  | _ => ("CupsAndPea$Orders", "ways", "[I", true)
def zR2 : String := "CupsAndPea$Pass"
def zT2 : u_T := fun k => match k with
  | 0 => ("CupsAndPea$Pass", "kind", "I", false)
  | 1 => ("CupsAndPea$Pass", "a", "I", false)
  | _ => ("CupsAndPea$Pass", "b", "I", false)
def zR3 : String := "CupsAndPea$Playe\x72"
def zT3 : u_T := fun k => match k with
  | 0 => ("CupsAndPea$Playe\x72", "purse", "I", false)
  | 1 => ("CupsAndPea$Playe\x72", "stake", "I", false)
  | 2 => ("CupsAndPea$Playe\x72", "bears", "I", false)
  | _ => ("CupsAndPea$Playe\x72", "lost", "I", false)
def zR4 : String := "CupsAndPea$Search"
def zT4 : u_T := fun k => match k with
  | 0 => ("CupsAndPea$Search", "kind", "I", false)
  | 1 => ("CupsAndPea$Search", "slip", "I", false)
  | 2 => ("CupsAndPea$Search", "length", "I", false)
  | 3 => ("CupsAndPea$Search", "least", "J", false)
  | 4 => ("CupsAndPea$Search", "chosen", "[I", true)
  | 5 => ("CupsAndPea$Search", "first", "[I", true)
  | _ => ("CupsAndPea$Search", "more", "LCupsAndPea$Pass;", true)
def zR5 : String := "CupsAndPea$Sheet"
def zT5 : u_T := fun k => match k with
  | 0 => ("CupsAndPea$Sheet", "bits", "I", false)
  | 1 => ("CupsAndPea$Sheet", "size", "I", false)
  | _ => ("CupsAndPea$Sheet", "numbers", "[I", true)
def zR6 : String := "CupsAndPea$Sight"
def zT6 : u_T := fun k => match k with
  | _ => ("CupsAndPea$Sight", "weights", "[[J", true)
def zR7 : String := "CupsAndPea$Table"
def zT7 : u_T := fun k => match k with
  | 0 => ("CupsAndPea$Table", "cups", "I", false)
  | 1 => ("CupsAndPea$Table", "begin", "I", false)
  | 2 => ("CupsAndPea$Table", "size", "I", false)
  | 3 => ("CupsAndPea$Table", "taken", "I", false)
  | 4 => ("CupsAndPea$Table", "z", "I", false)
  | 5 => ("CupsAndPea$Table", "passes", "[LCupsAndPea$Pass;", true)
  | 6 => ("CupsAndPea$Table", "eyes", "[LCupsAndPea$Eye;", true)
  | 7 => ("CupsAndPea$Table", "players", "[LCupsAndPea$Player;", true)
  | _ => ("CupsAndPea$Table", "spots", "[I", true)
def zR8 : String := "CupsAndPea$Tape"
def zT8 : u_T := fun k => match k with
  | 0 => ("CupsAndPea$Tape", "bytes", "[B", true)
  | 1 => ("CupsAndPea$Tape", "size", "I", false)
  | 2 => ("CupsAndPea$Tape", "sort", "I", false)
  | 3 => ("CupsAndPea$Tape", "start", "I", false)
  | 4 => ("CupsAndPea$Tape", "stop", "I", false)
  | _ => ("CupsAndPea$Tape", "numbe\x72", "I", false)
def zR9 : String := "CupsAndPea"
def zT9 : u_T := fun k => match k with
  | 0 => ("CupsAndPea", "table", "LCupsAndPea$Table;", true)
  | 1 => ("CupsAndPea", "kept", "LCupsAndPea$Table;", true)
  | 2 => ("CupsAndPea", "draft", "LCupsAndPea$Table;", true)
  | 3 => ("CupsAndPea", "isKept", "Z", false)
  | 4 => ("CupsAndPea", "sight", "LCupsAndPea$Sight;", true)
  | 5 => ("CupsAndPea", "otherSight", "LCupsAndPea$Sight;", true)
  | 6 => ("CupsAndPea", "search", "LCupsAndPea$Search;", true)
  | 7 => ("CupsAndPea", "orderings", "LCupsAndPea$Orders;", true)
  | 8 => ("CupsAndPea", "tape", "LCupsAndPea$Tape;", true)
  | 9 => ("CupsAndPea", "sheets", "[LCupsAndPea$Sheet;", true)
  | _ => ("CupsAndPea", "findings", "[I", true)
def zR10 : String := "CupsAndPeaModel"
def zT10 : u_T := fun k => match k with
  | 0 => ("CupsAndPeaModel", "d", "[I", true)
  | 1 => ("CupsAndPeaModel", "e", "[I", true)
  | 2 => ("CupsAndPeaModel", "kept", "[I", true)
  | 3 => ("CupsAndPeaModel", "isKept", "Z", false)
  | 4 => ("CupsAndPeaModel", "found", "[I", true)
  | 5 => ("CupsAndPeaModel", "tape", "[B", true)
  | 6 => ("CupsAndPeaModel", "taped", "I", false)
  | 7 => ("CupsAndPeaModel", "weights", "[J", true)
  | 8 => ("CupsAndPeaModel", "spare", "[J", true)
  | 9 => ("CupsAndPeaModel", "bases", "[J", true)
  | 10 => ("CupsAndPeaModel", "pairA", "[I", true)
  | 11 => ("CupsAndPeaModel", "pairB", "[I", true)
  | 12 => ("CupsAndPeaModel", "pairs", "I", false)
  | 13 => ("CupsAndPeaModel", "leastRight", "J", false)
  | 14 => ("CupsAndPeaModel", "leastRow", "I", false)
  | 15 => ("CupsAndPeaModel", "fitting", "I", false)
  | 16 => ("CupsAndPeaModel", "firstSet", "I", false)
  | 17 => ("CupsAndPeaModel", "inAll", "I", false)
  | 18 => ("CupsAndPeaModel", "inAny", "I", false)
  | 19 => ("CupsAndPeaModel", "ways", "[I", true)
  | 20 => ("CupsAndPeaModel", "byLoss", "I", false)
  | 21 => ("CupsAndPeaModel", "byWin", "I", false)
  | 22 => ("CupsAndPeaModel", "at", "I", false)
  | 23 => ("CupsAndPeaModel", "sort", "I", false)
  | 24 => ("CupsAndPeaModel", "from", "I", false)
  | 25 => ("CupsAndPeaModel", "value", "J", false)
  | 26 => ("CupsAndPeaModel", "fault", "I", false)
  | 27 => ("CupsAndPeaModel", "bitsOf", "[I", true)
  | 28 => ("CupsAndPeaModel", "sizeOf", "[I", true)
  | 29 => ("CupsAndPeaModel", "numbe\x72", "[I", true)
  | _ => ("CupsAndPeaModel", "passing", "[I", true)
def zR11 : String := "CupsAndPeaLaw"
abbrev zcl : List vw_C := [(zR0, zT0, 2), (zR1, zT1, 1), (zR2, zT2, 3), (zR3, zT3, 4), (zR4, zT4, 7), (zR5, zT5, 3), (zR6, zT6, 1), (zR7, zT7, 9), (zR8, zT8, 6), (zR9, zT9, 11), (zR10, zT10, 31)]
/-- a class's name -/
def znm (c : Nat) : String := match c with
  | 0 => "CupsAndPea$Eye"
  | 1 => "CupsAndPea$Orders"
  | 2 => "CupsAndPea$Pass"
  | 3 => "CupsAndPea$Playe\x72"
  | 4 => "CupsAndPea$Search"
  | 5 => "CupsAndPea$Sheet"
  | 6 => "CupsAndPea$Sight"
  | 7 => "CupsAndPea$Table"
  | 8 => "CupsAndPea$Tape"
  | 9 => "CupsAndPea"
  | 10 => "CupsAndPeaModel"
  | _ => "CupsAndPeaLaw"
/-- the fields of class c -/
def zTT (c : Nat) : u_T := match c with
  | 0 => zT0
  | 1 => zT1
  | 2 => zT2
  | 3 => zT3
  | 4 => zT4
  | 5 => zT5
  | 6 => zT6
  | 7 => zT7
  | 8 => zT8
  | 9 => zT9
  | _ => zT10
def znf (c : Nat) : Nat := match c with
  | 0 => 2
  | 1 => 1
  | 2 => 3
  | 3 => 4
  | 4 => 7
  | 5 => 3
  | 6 => 1
  | 7 => 9
  | 8 => 6
  | 9 => 11
  | _ => 31
/-- the type of a field of class c -/
def zty (c : Nat) : Nat → FieldType := fun k => match c with
  | 0 => (match k with
    | 0 => .int
    | _ => .int)
  | 1 => (match k with
    | _ => .array .int)
  | 2 => (match k with
    | 0 => .int
    | 1 => .int
    | _ => .int)
  | 3 => (match k with
    | 0 => .int
    | 1 => .int
    | 2 => .int
    | _ => .int)
  | 4 => (match k with
    | 0 => .int
    | 1 => .int
    | 2 => .int
    | 3 => .long
    | 4 => .array .int
    | 5 => .array .int
    | _ => .object "CupsAndPea$Pass")
  | 5 => (match k with
    | 0 => .int
    | 1 => .int
    | _ => .array .int)
  | 6 => (match k with
    | _ => .array (.array .long))
  | 7 => (match k with
    | 0 => .int
    | 1 => .int
    | 2 => .int
    | 3 => .int
    | 4 => .int
    | 5 => .array (.object "CupsAndPea$Pass")
    | 6 => .array (.object "CupsAndPea$Eye")
    | 7 => .array (.object "CupsAndPea$Playe\x72")
    | _ => .array .int)
  | 8 => (match k with
    | 0 => .array .byte
    | 1 => .int
    | 2 => .int
    | 3 => .int
    | 4 => .int
    | _ => .int)
  | 9 => (match k with
    | 0 => .object "CupsAndPea$Table"
    | 1 => .object "CupsAndPea$Table"
    | 2 => .object "CupsAndPea$Table"
    | 3 => .boolean
    | 4 => .object "CupsAndPea$Sight"
    | 5 => .object "CupsAndPea$Sight"
    | 6 => .object "CupsAndPea$Search"
    | 7 => .object "CupsAndPea$Orders"
    | 8 => .object "CupsAndPea$Tape"
    | 9 => .array (.object "CupsAndPea$Sheet")
    | _ => .array .int)
  | _ => (match k with
    | 0 => .array .int
    | 1 => .array .int
    | 2 => .array .int
    | 3 => .boolean
    | 4 => .array .int
    | 5 => .array .byte
    | 6 => .int
    | 7 => .array .long
    | 8 => .array .long
    | 9 => .array .long
    | 10 => .array .int
    | 11 => .array .int
    | 12 => .int
    | 13 => .long
    | 14 => .int
    | 15 => .int
    | 16 => .int
    | 17 => .int
    | 18 => .int
    | 19 => .array .int
    | 20 => .int
    | 21 => .int
    | 22 => .int
    | 23 => .int
    | 24 => .int
    | 25 => .long
    | 26 => .int
    | 27 => .array .int
    | 28 => .array .int
    | 29 => .array .int
    | _ => .array .int)
/-- the row of a field by its number -/
def zfT (n : Nat) : String × (String × (String × Bool)) := zTT (n / 256) (n / 4 % 64)
/-- the pool of each class, resolved: (class, (number, (step, place in lw_tbl))) -/
def zpool_0 : List (Nat × (Nat × (Instr × Nat))) := [(0, (1, (.nop, 129))), (0, (7, (.getfield 0, 130))), (0, (13, (.getfield 4, 136))), (1, (3, (.nop, 270))), (1, (9, (.getfield 259, 271))), (1, (15, (.getfield 1800, 178))), (1, (21, (.fadd, 618))), (1, (27, (.getfield 1796, 174))), (1, (30, (.invokestatic 4098, 619))), (1, (33, (.getfield 1792, 169))), (1, (36, (.invokevirtual 3092, 622))), (1, (40, (.getfield 1815, 189))), (1, (44, (.invokevirtual 11298, 626))), (2, (3, (.nop, 106))), (2, (9, (.getfield 512, 107))), (2, (15, (.getfield 516, 110))), (2, (18, (.getfield 520, 114))), (2, (21, (.invokevirtual 7201, 413))), (2, (25, (.invokevirtual 10274, 446))), (2, (29, (.invokestatic 140291, 450))), (2, (33, (.invokevirtual 9250, 442))), (2, (36, (.fadd, 482))), (3, (3, (.nop, 149))), (3, (9, (.getfield 768, 150))), (3, (15, (.getfield 772, 152))), (3, (18, (.getfield 776, 154))), (3, (21, (.getfield 780, 156))), (3, (24, (.invokevirtual 17457, 642))), (3, (28, (.invokestatic 20483, 646))), (3, (32, (.fadd, 670))), (3, (38, (.invokestatic 21505, 671))), (3, (42, (.invokestatic 22529, 674))), (3, (45, (.invokestatic 23557, 695))), (3, (49, (.fsub, 677))), (3, (52, (.invokestatic 24580, 698))), (3, (56, (.invokestatic 25605, 701))), (4, (3, (.nop, 238))), (4, (9, (.getfield 1024, 241))), (4, (15, (.getfield 1028, 242))), (4, (18, (.getfield 1032, 243))), (4, (21, (.getfield 1037, 244))), (4, (25, (.getfield 1043, 246))), (4, (29, (.getfield 1047, 247))), (4, (32, (.new 515, 239))), (4, (34, (.invokestatic 5121, 240))), (4, (35, (.getfield 1051, 249))), (4, (39, (.sipush (1000000000000000), 565))), (4, (41, (.invokevirtual 6180, 566))), (4, (45, (.getfield 1819, 193))), (4, (51, (.getfield 0, 131))), (4, (54, (.invokevirtual 12322, 567))), (4, (58, (.invokevirtual 35940, 568))), (4, (64, (.getfield 1800, 181))), (4, (67, (.invokevirtual 46194, 569))), (4, (70, (.invokestatic 28677, 570))), (4, (74, (.getfield 1792, 171))), (4, (77, (.invokevirtual 11298, 573))), (4, (78, (.invokestatic 29701, 574))), (4, (81, (.invokevirtual 36965, 577))), (4, (85, (.invokevirtual 37990, 578)))]
def zpool_1 : List (Nat × (Nat × (Instr × Nat))) := [(4, (89, (.swap, 579))), (5, (3, (.nop, 308))), (5, (9, (.getfield 1280, 309))), (5, (15, (.getfield 1284, 311))), (5, (18, (.getfield 1291, 313))), (6, (3, (.nop, 225))), (6, (9, (.multianewarray 0 2, 226))), (6, (11, (.getfield 1539, 228))), (6, (16, (.getfield 1819, 192))), (6, (22, (.getfield 4, 137))), (6, (28, (.getfield 1800, 180))), (6, (31, (.getfield 1815, 188))), (6, (35, (.getfield 0, 132))), (6, (38, (.invokevirtual 12322, 478))), (6, (44, (.getfield 1792, 170))), (6, (47, (.invokevirtual 36965, 485))), (6, (51, (.invokevirtual 37990, 489))), (6, (55, (.getfield 516, 112))), (6, (58, (.invokevirtual 8225, 493))), (6, (62, (.invokestatic 141314, 494))), (6, (66, (.invokestatic 140291, 497))), (7, (3, (.nop, 95))), (7, (9, (.getfield 1792, 167))), (7, (15, (.getfield 1796, 173))), (7, (18, (.getfield 1800, 177))), (7, (21, (.getfield 1804, 183))), (7, (24, (.getfield 1808, 185))), (7, (27, (.new 515, 96))), (7, (29, (.getfield 1815, 187))), (7, (33, (.new 2, 98))), (7, (35, (.getfield 1819, 191))), (7, (39, (.new 772, 100))), (7, (41, (.getfield 1823, 196))), (7, (45, (.getfield 1827, 199))), (7, (49, (.invokestatic 5121, 103))), (7, (50, (.invokestatic 1, 126))), (7, (51, (.invokestatic 13313, 146))), (7, (52, (.getfield 512, 108))), (7, (55, (.getfield 516, 111))), (7, (58, (.getfield 520, 115))), (7, (61, (.invokevirtual 6180, 397))), (7, (65, (.getfield 0, 133))), (7, (68, (.getfield 4, 138))), (7, (69, (.invokevirtual 16434, 756))), (7, (73, (.swap, 760))), (7, (79, (.invokevirtual 11298, 438))), (7, (83, (.fadd, 594))), (7, (89, (.invokevirtual 18482, 666))), (7, (93, (.invokevirtual 17457, 722))), (7, (97, (.iconst (1103515245), 731))), (7, (98, (.invokevirtual 14386, 954))), (8, (3, (.nop, 280))), (8, (9, (.getfield 2051, 281))), (8, (15, (.getfield 2052, 282))), (8, (19, (.getfield 2056, 284))), (8, (22, (.getfield 2060, 285))), (8, (25, (.getfield 2064, 286))), (8, (28, (.getfield 2068, 287))), (8, (31, (.invokevirtual 68737, 765))), (8, (34, (.invokevirtual 58498, 774)))]
def zpool_2 : List (Nat × (Nat × (Instr × Nat))) := [(8, (38, (.invokevirtual 59521, 778))), (8, (42, (.invokevirtual 61571, 844))), (8, (46, (.ldc 11, 854))), (8, (48, (.invokevirtual 67714, 792))), (8, (52, (.invokevirtual 62594, 855))), (8, (55, (.ldc 13, 860))), (8, (57, (.invokevirtual 63618, 861))), (8, (60, (.ldc 15, 866))), (8, (62, (.invokevirtual 64642, 867))), (8, (65, (.invokestatic 60417, 782))), (8, (69, (.ldc 4, 785))), (8, (71, (.ldc 5, 786))), (8, (73, (.ldc 6, 787))), (8, (75, (.ldc 7, 788))), (8, (77, (.ldc 8, 789))), (8, (79, (.ldc 9, 790))), (8, (81, (.ldc 10, 791))), (8, (83, (.getfield 1800, 182))), (8, (86, (.getfield 1792, 172))), (8, (89, (.invokevirtual 66691, 848))), (8, (93, (.invokevirtual 45172, 853))), (8, (97, (.ldc 12, 859))), (8, (99, (.getfield 1796, 176))), (8, (102, (.ldc 14, 865))), (8, (104, (.getfield 1819, 194))), (8, (108, (.getfield 0, 134))), (8, (112, (.invokestatic 65537, 871))), (8, (115, (.getstatic 2, 877))), (8, (119, (.getstatic 3, 878))), (8, (122, (.getfield 1823, 197))), (8, (126, (.invokevirtual 15411, 879))), (8, (132, (.ldc 16, 874))), (8, (134, (.ldc 17, 875))), (8, (136, (.ldc 18, 876))), (8, (138, (.invokestatic 137219, 852))), (8, (142, (.dadd, 796))), (8, (147, (.dsub, 806))), (8, (151, (.invokevirtual 69762, 769))), (8, (155, (.fadd, 773))), (9, (1, (.nop, 87))), (9, (7, (.new 1801, 90))), (9, (9, (.invokestatic 41985, 92))), (9, (10, (.getfield 2307, 322))), (9, (16, (.getfield 2311, 323))), (9, (19, (.getfield 2315, 324))), (9, (22, (.getfield 2318, 325))), (9, (26, (.new 1537, 220))), (9, (28, (.invokestatic 34817, 222))), (9, (29, (.getfield 2323, 326))), (9, (33, (.getfield 2327, 327))), (9, (36, (.new 1031, 233))), (9, (38, (.invokestatic 26625, 235))), (9, (39, (.getfield 2331, 328))), (9, (43, (.new 257, 265))), (9, (45, (.invokestatic 1025, 267))), (9, (46, (.getfield 2335, 329))), (9, (50, (.new 2054, 275))), (9, (52, (.invokestatic 55297, 277))), (9, (53, (.getfield 2339, 330))), (9, (57, (.new 1283, 302)))]
def zpool_3 : List (Nat × (Nat × (Instr × Nat))) := [(9, (59, (.getfield 2343, 331))), (9, (63, (.getfield 2347, 332))), (9, (67, (.invokestatic 30721, 305))), (9, (68, (.invokestatic 137219, 360))), (9, (72, (.iconst (-1000001), 363))), (9, (73, (.invokevirtual 123026, 364))), (9, (77, (.getfield 1800, 179))), (9, (81, (.iconst (-1000005), 368))), (9, (82, (.getfield 1792, 168))), (9, (85, (.invokevirtual 44146, 369))), (9, (89, (.invokevirtual 128146, 377))), (9, (93, (.getfield 1796, 175))), (9, (96, (.invokestatic 131073, 389))), (9, (99, (.invokevirtual 127122, 381))), (9, (102, (.iconst (-1000002), 392))), (9, (103, (.invokevirtual 45172, 393))), (9, (107, (.invokevirtual 129170, 405))), (9, (110, (.getfield 1815, 190))), (9, (114, (.getfield 512, 109))), (9, (119, (.getfield 516, 113))), (9, (122, (.getfield 520, 116))), (9, (125, (.invokevirtual 8225, 409))), (9, (129, (.iconst (-1000004), 425))), (9, (130, (.invokevirtual 130194, 430))), (9, (133, (.invokevirtual 46194, 434))), (9, (136, (.invokevirtual 9250, 457))), (9, (139, (.invokevirtual 11298, 462))), (9, (140, (.invokestatic 132097, 467))), (9, (143, (.getfield 1819, 195))), (9, (147, (.getfield 0, 135))), (9, (152, (.getfield 4, 139))), (9, (153, (.invokevirtual 35940, 474))), (9, (157, (.invokevirtual 39011, 498))), (9, (161, (.invokevirtual 124050, 506))), (9, (164, (.invokevirtual 125075, 518))), (9, (167, (.invokevirtual 40034, 510))), (9, (168, (.iconst (-1000007), 530))), (9, (169, (.invokevirtual 41059, 531))), (9, (173, (.sipush (-1), 543))), (9, (175, (.sipush (1000000000000000), 548))), (9, (177, (.invokevirtual 126100, 549))), (9, (181, (.invokevirtual 27718, 561))), (9, (185, (.getfield 1037, 245))), (9, (189, (.getfield 1047, 248))), (9, (192, (.invokevirtual 47217, 590))), (9, (195, (.invokevirtual 48242, 595))), (9, (198, (.invokestatic 139265, 607))), (9, (201, (.invokevirtual 2067, 614))), (9, (205, (.invokestatic 133121, 631))), (9, (208, (.getstatic 2, 634))), (9, (211, (.getstatic 3, 636))), (9, (214, (.getfield 1823, 198))), (9, (218, (.invokevirtual 14386, 638))), (9, (223, (.invokevirtual 15411, 649))), (9, (227, (.invokevirtual 17457, 661))), (9, (231, (.invokevirtual 49267, 662))), (9, (235, (.invokestatic 134145, 688))), (9, (238, (.invokevirtual 19506, 691))), (9, (241, (.getfield 768, 151))), (9, (244, (.getfield 772, 153)))]
def zpool_4 : List (Nat × (Nat × (Instr × Nat))) := [(9, (247, (.getfield 776, 155))), (9, (250, (.invokestatic 24580, 708))), (9, (254, (.getfield 780, 157))), (9, (257, (.invokestatic 25605, 709))), (9, (261, (.getfield 1804, 184))), (9, (264, (.invokevirtual 50289, 718))), (9, (267, (.invokevirtual 51314, 727))), (9, (270, (.getfield 1808, 186))), (9, (273, (.getfield 2052, 283))), (9, (274, (.invokevirtual 56450, 740))), (9, (277, (.invokevirtual 43122, 752))), (9, (280, (.invokevirtual 57474, 761))), (9, (284, (.getfield 1827, 200))), (9, (287, (.iconst (-1000006), 888))), (9, (288, (.invokestatic 138242, 889))), (9, (292, (.iconst (-1000003), 894))), (9, (293, (.invokestatic 135169, 899))), (9, (296, (.invokestatic 136193, 902))), (9, (299, (.invokevirtual 31827, 905))), (9, (302, (.getfield 1284, 312))), (9, (303, (.getfield 1280, 310))), (9, (306, (.invokevirtual 32851, 913))), (9, (308, (.invokevirtual 33875, 921))), (9, (311, (.getfield 1291, 314))), (9, (314, (.swap, 925))), (9, (320, (.invokevirtual 52338, 950))), (9, (323, (.invokevirtual 53361, 955))), (9, (326, (.invokevirtual 54385, 959))), (9, (329, (.getstatic 1, 892))), (10, (1, (.nop, 972))), (10, (7, (.getfield 2563, 973))), (10, (13, (.getfield 2567, 974))), (10, (16, (.getfield 2571, 975))), (10, (19, (.getfield 2579, 977))), (10, (22, (.getfield 2583, 978))), (10, (26, (.getfield 2591, 980))), (10, (30, (.getfield 2595, 981))), (10, (33, (.getfield 2599, 982))), (10, (36, (.getfield 2603, 983))), (10, (39, (.getfield 2607, 984))), (10, (42, (.getfield 2639, 992))), (10, (45, (.getfield 2671, 1000))), (10, (48, (.getfield 2675, 1001))), (10, (51, (.getfield 2679, 1002))), (10, (54, (.getfield 2683, 1003))), (10, (57, (.iconst (-1000001), 1080))), (10, (58, (.invokestatic 144387, 1073))), (10, (62, (.sipush (3), 1071))), (10, (64, (.invokestatic 150530, 1114))), (10, (68, (.invokestatic 151555, 1139))), (10, (72, (.invokestatic 152580, 1136))), (10, (76, (.invokevirtual 149667, 1106))), (10, (79, (.sipush (6), 1072))), (10, (81, (.invokevirtual 143522, 1076))), (10, (85, (.sipush (-1), 1085))), (10, (87, (.invokevirtual 146594, 1090))), (10, (91, (.invokevirtual 157860, 1094))), (10, (94, (.invokevirtual 147618, 1102))), (10, (97, (.invokevirtual 154786, 1110))), (10, (100, (.invokestatic 153604, 1133)))]
def zpool_5 : List (Nat × (Nat × (Instr × Nat))) := [(10, (103, (.invokevirtual 162978, 1129))), (10, (106, (.invokevirtual 168098, 1166))), (10, (110, (.invokevirtual 167075, 1170))), (10, (113, (.invokevirtual 169124, 1174))), (10, (117, (.invokestatic 148481, 1154))), (10, (120, (.sipush (10), 1157))), (10, (122, (.invokevirtual 170148, 1162))), (10, (125, (.invokevirtual 171169, 1186))), (10, (129, (.invokevirtual 174243, 1182))), (10, (132, (.invokevirtual 176290, 1198))), (10, (136, (.invokevirtual 177315, 1194))), (10, (140, (.invokevirtual 183460, 1222))), (10, (144, (.getfield 2608, 985))), (10, (148, (.invokevirtual 186529, 1243))), (10, (151, (.getfield 2616, 987))), (10, (154, (.invokevirtual 187556, 1247))), (10, (157, (.getfield 2613, 986))), (10, (161, (.sipush (4), 1238))), (10, (163, (.invokevirtual 189604, 1234))), (10, (166, (.invokevirtual 188580, 1239))), (10, (169, (.getfield 2620, 988))), (10, (172, (.getfield 2624, 989))), (10, (175, (.getfield 2628, 990))), (10, (178, (.getfield 2632, 991))), (10, (181, (.invokevirtual 193698, 1259))), (10, (184, (.invokevirtual 192674, 1263))), (10, (187, (.sipush (2), 1271))), (10, (189, (.invokestatic 196609, 1276))), (10, (192, (.invokevirtual 199843, 1290))), (10, (195, (.sipush (9999), 1287))), (10, (197, (.sipush (99), 1288))), (10, (199, (.sipush (9), 1289))), (10, (201, (.invokevirtual 200868, 1294))), (10, (204, (.invokevirtual 201890, 1302))), (10, (207, (.invokevirtual 204963, 1310))), (10, (211, (.getfield 2640, 993))), (10, (214, (.getfield 2644, 994))), (10, (217, (.invokestatic 145410, 1330))), (10, (221, (.invokevirtual 208035, 1326))), (10, (225, (.invokevirtual 209059, 1322))), (10, (228, (.iconst (1103515245), 1354))), (10, (229, (.sipush (12), 1349))), (10, (231, (.invokevirtual 214177, 1350))), (10, (234, (.getfield 2584, 979))), (10, (237, (.getfield 2648, 995))), (10, (240, (.invokevirtual 221346, 1379))), (10, (243, (.getfield 2656, 997))), (10, (246, (.getfield 2661, 998))), (10, (249, (.getfield 2652, 996))), (10, (252, (.invokestatic 219137, 1383))), (10, (255, (.sipush (100000000000000000), 1386))), (10, (257, (.sipush (27), 1387))), (10, (259, (.invokestatic 220161, 1388))), (10, (262, (.sipush (48), 1391))), (10, (264, (.getfield 2664, 999))), (10, (267, (.sipush (316189), 1400))), (10, (269, (.invokevirtual 224418, 1401))), (10, (273, (.sipush (3294020), 1405))), (10, (275, (.sipush (242939), 1406))), (10, (277, (.sipush (92275), 1407)))]
def zpool_6 : List (Nat × (Nat × (Instr × Nat))) := [(10, (279, (.sipush (12387666), 1408))), (10, (281, (.sipush (383153), 1409))), (10, (283, (.sipush (9454493), 1410))), (10, (285, (.invokevirtual 223393, 1415))), (10, (288, (.invokevirtual 222369, 1375))), (10, (291, (.invokevirtual 226467, 1419))), (10, (294, (.sipush (158575), 1428))), (10, (296, (.sipush (382984), 1434))), (10, (298, (.sipush (8930039), 1440))), (10, (300, (.sipush (10492070), 1441))), (10, (302, (.sipush (1162531), 1442))), (10, (304, (.invokevirtual 225441, 1396))), (10, (307, (.invokevirtual 227490, 1411))), (10, (310, (.sipush (11800), 1423))), (10, (312, (.invokevirtual 228513, 1424))), (10, (315, (.sipush (4325), 1429))), (10, (317, (.invokevirtual 229537, 1430))), (10, (320, (.sipush (235997865), 1435))), (10, (322, (.invokevirtual 230561, 1436))), (10, (325, (.invokevirtual 231585, 1392))), (10, (328, (.invokevirtual 232609, 1371))), (10, (331, (.invokestatic 235521, 1451))), (10, (334, (.invokestatic 237569, 1458))), (10, (337, (.invokevirtual 239778, 1465))), (10, (340, (.getfield 2574, 976))), (10, (344, (.invokevirtual 247971, 1497))), (10, (347, (.invokevirtual 248993, 1501))), (11, (7, (.new 2315, 82))), (11, (9, (.invokestatic 70657, 84))), (11, (10, (.new 2591, 967))), (11, (12, (.invokestatic 142337, 969))), (11, (13, (.invokevirtual 71826, 356))), (11, (17, (.invokevirtual 155810, 1067))), (11, (18, (.invokevirtual 72850, 373))), (11, (21, (.invokevirtual 156834, 1081))), (11, (22, (.invokevirtual 73876, 385))), (11, (26, (.invokevirtual 158884, 1086))), (11, (27, (.invokevirtual 74899, 401))), (11, (31, (.invokevirtual 159907, 1098))), (11, (32, (.invokevirtual 75923, 417))), (11, (35, (.invokevirtual 160931, 1117))), (11, (36, (.invokevirtual 76945, 421))), (11, (40, (.invokevirtual 161953, 1121))), (11, (41, (.invokevirtual 77970, 426))), (11, (44, (.invokevirtual 164002, 1125))), (11, (45, (.invokevirtual 78995, 453))), (11, (48, (.invokevirtual 165027, 1142))), (11, (49, (.invokevirtual 80017, 458))), (11, (52, (.invokevirtual 166049, 1146))), (11, (53, (.invokevirtual 81044, 463))), (11, (56, (.invokevirtual 172196, 1150))), (11, (57, (.invokevirtual 82068, 470))), (11, (61, (.invokevirtual 173220, 1158))), (11, (62, (.invokevirtual 83090, 502))), (11, (65, (.invokevirtual 175266, 1178))), (11, (66, (.invokevirtual 84114, 514))), (11, (70, (.invokevirtual 178338, 1190))), (11, (71, (.invokevirtual 85138, 522))), (11, (74, (.invokevirtual 179362, 1202))), (11, (75, (.invokevirtual 86163, 526)))]
def zpool_7 : List (Nat × (Nat × (Instr × Nat))) := [(11, (78, (.invokevirtual 180387, 1206))), (11, (79, (.invokevirtual 87186, 535))), (11, (82, (.invokevirtual 181410, 1210))), (11, (83, (.invokevirtual 88210, 539))), (11, (86, (.invokevirtual 182434, 1214))), (11, (87, (.invokevirtual 89234, 544))), (11, (90, (.invokevirtual 184482, 1218))), (11, (91, (.invokevirtual 90259, 553))), (11, (94, (.invokevirtual 185507, 1226))), (11, (95, (.invokevirtual 91284, 557))), (11, (98, (.invokevirtual 190628, 1230))), (11, (99, (.invokevirtual 92309, 582))), (11, (103, (.invokevirtual 191653, 1251))), (11, (104, (.invokevirtual 93330, 586))), (11, (107, (.invokevirtual 194722, 1255))), (11, (108, (.invokevirtual 94355, 599))), (11, (111, (.invokevirtual 195747, 1267))), (11, (112, (.invokevirtual 95377, 603))), (11, (115, (.invokevirtual 197793, 1272))), (11, (116, (.invokevirtual 96402, 610))), (11, (119, (.invokevirtual 198818, 1279))), (11, (120, (.invokevirtual 97428, 627))), (11, (123, (.invokevirtual 202916, 1283))), (11, (124, (.invokevirtual 98451, 653))), (11, (127, (.invokevirtual 203939, 1298))), (11, (128, (.invokevirtual 99475, 657))), (11, (131, (.invokevirtual 205987, 1306))), (11, (132, (.invokevirtual 100499, 680))), (11, (135, (.invokevirtual 207011, 1314))), (11, (136, (.invokevirtual 101523, 684))), (11, (139, (.invokevirtual 210083, 1318))), (11, (140, (.invokevirtual 102547, 704))), (11, (143, (.invokevirtual 211107, 1333))), (11, (144, (.invokevirtual 103570, 710))), (11, (147, (.invokevirtual 212130, 1337))), (11, (148, (.invokevirtual 104594, 714))), (11, (151, (.invokevirtual 213154, 1341))), (11, (152, (.invokevirtual 105618, 723))), (11, (155, (.invokevirtual 215202, 1345))), (11, (156, (.invokevirtual 106642, 732))), (11, (159, (.invokevirtual 216226, 1355))), (11, (160, (.invokevirtual 107667, 736))), (11, (163, (.invokevirtual 217251, 1359))), (11, (164, (.invokevirtual 108689, 744))), (11, (167, (.invokevirtual 218273, 1363))), (11, (168, (.invokevirtual 109713, 748))), (11, (171, (.invokevirtual 233633, 1367))), (11, (172, (.invokevirtual 110739, 880))), (11, (175, (.invokevirtual 234659, 1443))), (11, (176, (.invokevirtual 111763, 884))), (11, (179, (.invokevirtual 236707, 1447))), (11, (180, (.invokevirtual 112788, 895))), (11, (183, (.invokevirtual 238756, 1454))), (11, (184, (.invokevirtual 113812, 909))), (11, (187, (.invokevirtual 240804, 1461))), (11, (188, (.invokevirtual 114838, 917))), (11, (192, (.invokevirtual 241830, 1469))), (11, (193, (.invokevirtual 115858, 926))), (11, (196, (.invokevirtual 242850, 1473))), (11, (197, (.invokevirtual 116882, 930)))]
def zpool_8 : List (Nat × (Nat × (Instr × Nat))) := [(11, (200, (.invokevirtual 243874, 1477))), (11, (201, (.invokevirtual 117905, 934))), (11, (204, (.invokevirtual 244897, 1481))), (11, (205, (.invokevirtual 118929, 938))), (11, (208, (.invokevirtual 245921, 1485))), (11, (209, (.invokevirtual 119953, 942))), (11, (212, (.invokevirtual 246945, 1489))), (11, (213, (.invokevirtual 120978, 946))), (11, (216, (.invokevirtual 250018, 1493))), (11, (217, (.invokevirtual 122002, 963))), (11, (220, (.invokevirtual 251042, 1505)))]
def zpool : List (Nat × (Nat × (Instr × Nat))) := zpool_0 ++ (zpool_1 ++ (zpool_2 ++ (zpool_3 ++ (zpool_4 ++ (zpool_5 ++ (zpool_6 ++ (zpool_7 ++ (zpool_8))))))))
def zplook : List (Nat × (Nat × (Instr × Nat))) → Nat → Nat → Option Instr
  | [], _, _ => none
  | (o, (j, (i, _))) :: l, own, ix => match Nat.beq o own && Nat.beq j ix with
    | true => some i
    | false => zplook l own ix
/-- an instruction of class own (whose method answers a boolean or not), made a small step -/
def znorm (own : Nat) (md : Nat) (pc : Nat) : Instr → Option Instr
  | .iconst n => if -1 ≤ n ∧ n ≤ 5 then some (.iconst n) else none
  | .bipush n => if -128 ≤ n ∧ n < 128 then some (.iconst n) else none
  | .sipush n => if -32768 ≤ n ∧ n < 32768 then some (.iconst n) else none
  | .lconst n => some (.sipush ((n : Nat) : Int))
  | .ldc i => match zplook zpool own i with
    | some (.iconst n) => some (.iconst n)
    | some (.ldc j) => some (.ldc j)
    | _ => none
  | .ldc_w i => match zplook zpool own i with
    | some (.iconst n) => some (.iconst n)
    | _ => none
  | .ldc2_w i => match zplook zpool own i with
    | some (.sipush n) => some (.sipush n)
    | _ => none
  | .iload i => some (.iload i)
  | .iload_n i => some (.iload i)
  | .lload i => some (.lload i)
  | .lload_n i => some (.lload i)
  | .aload i => some (.aload i)
  | .aload_n i => some (.aload i)
  | .istore i => some (.istore i)
  | .istore_n i => some (.istore i)
  | .lstore i => some (.lstore i)
  | .lstore_n i => some (.lstore i)
  | .astore i => some (.astore i)
  | .astore_n i => some (.astore i)
  | .ifCond c o => if 0 ≤ pc + o then some (.ifCond c (pc + o)) else none
  | .if_icmp c o => if 0 ≤ pc + o then some (.if_icmp c (pc + o)) else none
  | .goto o => if 0 ≤ pc + o then some (.goto (pc + o)) else none
  | .tableswitch d lo hi ts => if 0 ≤ pc + d ∧ ts.toList.all (fun o => decide (0 ≤ pc + o)) = true then some (.tableswitch (pc + d) lo hi ⟨ts.toList.map (fun o => pc + o)⟩) else none
  | .lookupswitch d ps => if 0 ≤ pc + d ∧ ps.toList.all (fun q => decide (0 ≤ pc + q.2)) = true ∧ (ps.toList.zip (ps.toList.drop 1)).all (fun (a, next) => a.1 < next.1) = true then some (.lookupswitch (pc + d) ⟨ps.toList.map (fun q => (q.1, pc + q.2))⟩) else none
  | .getfield i => match zplook zpool own i with
    | some (.getfield n) => some (.getfield n)
    | _ => none
  | .putfield i => match zplook zpool own i with
    | some (.getfield n) => if (zfT n).2.2.2 = false ∨ (md = 2 ∧ (zfT n).1 = znm own) then some (.putfield n) else none
    | _ => none
  | .getstatic i => match zplook zpool own i with
    | some (.getstatic n) => some (.getstatic n)
    | _ => none
  | .invokevirtual i => match zplook zpool own i with
    | some (.invokevirtual n) => some (.invokevirtual n)
    | some .dadd => some .dadd
    | some .dsub => some .dsub
    | _ => none
  | .invokestatic i => match zplook zpool own i with
    | some (.invokestatic n) => some (.invokestatic n)
    | some .fadd => some .fadd
    | some .fsub => some .fsub
    | some .swap => some .swap
    | _ => none
  | .invokespecial i => match zplook zpool own i with
    | some (.invokestatic n) => some (.invokestatic n)
    | some .nop => some .nop
    | _ => none
  | .new i => match zplook zpool own i with
    | some (.new n) => some (.new n)
    | _ => none
  | .anewarray i => match zplook zpool own i with
    | some (.new n) => some (.anewarray (n / 256))
    | _ => none
  | .multianewarray i 2 => match zplook zpool own i with
    | some (.multianewarray _ _) => some (.multianewarray 0 2)
    | _ => none
  | .ireturn => some (if md = 1 then .freturn else .ireturn)
  | .iadd => some .iadd
  | .isub => some .isub
  | .imul => some .imul
  | .idiv => some .idiv
  | .irem => some .irem
  | .iand => some .iand
  | .ior => some .ior
  | .ishl => some .ishl
  | .ishr => some .ishr
  | .iushr => some .iushr
  | .i2l => some .i2l
  | .l2i => some .l2i
  | .i2b => some .i2b
  | .i2s => some .i2s
  | .ladd => some .ladd
  | .lsub => some .lsub
  | .lmul => some .lmul
  | .lcmp => some .lcmp
  | .dup => some .dup
  | .dup2 => some .dup2
  | .pop => some .pop
  | .iinc i c => some (.iinc i c)
  | .iaload => some .iaload
  | .laload => some .laload
  | .baload => some .baload
  | .aaload => some .aaload
  | .iastore => some .iastore
  | .lastore => some .lastore
  | .bastore => some .bastore
  | .aastore => some .aastore
  | .arraylength => some .arraylength
  | .newarray t => some (.newarray t)
  | .lreturn => some .lreturn
  | .areturn => some .areturn
  | .return_ => some .return_
  | _ => none
/-- how long an instruction of one form is (0: of more than one) -/
def zln : Instr → Nat
  | .iconst _ => 1
  | .lconst _ => 1
  | .bipush _ => 2
  | .sipush _ => 3
  | .ldc _ => 2
  | .ldc_w _ => 3
  | .ldc2_w _ => 3
  | .iload _ => 2
  | .lload _ => 2
  | .aload _ => 2
  | .istore _ => 2
  | .lstore _ => 2
  | .astore _ => 2
  | .iinc _ _ => 3
  | .ifCond _ _ => 3
  | .if_icmp _ _ => 3
  | .goto _ => 3
  | .tableswitch _ _ _ _ => 0
  | .lookupswitch _ _ => 0
  | .getfield _ => 3
  | .putfield _ => 3
  | .getstatic _ => 3
  | .invokevirtual _ => 3
  | .invokestatic _ => 3
  | .invokespecial _ => 3
  | .new _ => 3
  | .anewarray _ => 3
  | .newarray _ => 2
  | .multianewarray _ _ => 4
  | _ => 1
/-- an entry of a code's list is what stands in the bytes there -/
def zgood (own : Nat) (md : Nat) (b : ByteArray) (e : Nat × (Instr × Nat)) : Bool := match decode b e.1 with
  | .ok (i, n) => decide (znorm own md e.1 i = some e.2.1) && (Nat.beq e.2.2 (e.1 + n) && (Nat.beq (zln i) 0 || Nat.beq (zln i) n))
  | .error _ => false
/-- (class, (name, (bytes, (locals, (type of the answer, (arguments, (kind: 0 static, 1 virtual, 2 constructor; places in lw_tbl of code, static or instance, selects, initialized))))))) -/
abbrev zMt : Type := Nat × (MethodName × (ByteArray × (Nat × (Option FieldType × (Nat × (Nat × (Nat × (Nat × (Nat × Nat)))))))))
def zM_0 : List zMt := [(0, (⟨"CupsAndPea$Eye", "<init>", "()V"⟩, (prog_2_method_1_code, (1, (none, (1, (2, (128, (127, (0, 68)))))))))), (1, (⟨"CupsAndPea$Orders", "<init>", "()V"⟩, (prog_3_method_1_code, (1, (none, (1, (2, (269, (268, (0, 72)))))))))), (1, (⟨"CupsAndPea$Orders", "thatEnd", "(LCupsAndPea$Table;I)I"⟩, (prog_3_method_2_code, (6, (some (.int), (3, (1, (617, (615, (616, 72)))))))))), (1, (⟨"CupsAndPea$Orders", "goOn", "(LCupsAndPea$Table;II)V"⟩, (prog_3_method_3_code, (6, (none, (4, (1, (625, (624, (9, 72)))))))))), (1, (⟨"CupsAndPea$Orders", "index", "(II)I"⟩, (prog_3_method_4_code, (2, (some (.int), (2, (0, (621, (620, (0, 72)))))))))), (2, (⟨"CupsAndPea$Pass", "<init>", "()V"⟩, (prog_4_method_1_code, (1, (none, (1, (2, (105, (104, (0, 67)))))))))), (2, (⟨"CupsAndPea$Pass", "set", "(III)V"⟩, (prog_4_method_2_code, (4, (none, (4, (1, (400, (398, (399, 67)))))))))), (2, (⟨"CupsAndPea$Pass", "third", "()I"⟩, (prog_4_method_3_code, (2, (some (.int), (1, (1, (416, (414, (415, 67)))))))))), (2, (⟨"CupsAndPea$Pass", "looksTo", "()I"⟩, (prog_4_method_4_code, (1, (some (.int), (1, (1, (412, (410, (411, 67)))))))))), (2, (⟨"CupsAndPea$Pass", "thingBehind", "(I)I"⟩, (prog_4_method_5_code, (2, (some (.int), (2, (1, (445, (443, (444, 67)))))))))), (2, (⟨"CupsAndPea$Pass", "whirled", "(I)I"⟩, (prog_4_method_6_code, (3, (some (.int), (2, (1, (449, (448, (5, 67)))))))))), (2, (⟨"CupsAndPea$Pass", "peaBehind", "(I)I"⟩, (prog_4_method_7_code, (2, (some (.int), (2, (1, (441, (439, (440, 67)))))))))), (2, (⟨"CupsAndPea$Pass", "slipOf", "(I)I"⟩, (prog_4_method_8_code, (2, (some (.int), (2, (1, (481, (479, (480, 67)))))))))), (3, (⟨"CupsAndPea$Playe\x72", "<init>", "()V"⟩, (prog_5_method_1_code, (1, (none, (1, (2, (148, (147, (0, 69)))))))))), (3, (⟨"CupsAndPea$Playe\x72", "tells", "(I)I"⟩, (prog_5_method_2_code, (2, (some (.int), (2, (1, (641, (639, (640, 69)))))))))), (3, (⟨"CupsAndPea$Playe\x72", "become", "(II)V"⟩, (prog_5_method_3_code, (3, (none, (3, (1, (652, (650, (651, 69)))))))))), (3, (⟨"CupsAndPea$Playe\x72", "become", "(LCupsAndPea$Player;)V"⟩, (prog_5_method_4_code, (2, (none, (2, (1, (759, (757, (758, 69)))))))))), (3, (⟨"CupsAndPea$Playe\x72", "hasLeft", "()Z"⟩, (prog_5_method_5_code, (1, (some (.boolean), (1, (1, (645, (643, (644, 69)))))))))), (3, (⟨"CupsAndPea$Playe\x72", "stakes", "(Z)I"⟩, (prog_5_method_6_code, (3, (some (.int), (2, (1, (669, (667, (668, 69)))))))))), (3, (⟨"CupsAndPea$Playe\x72", "brings", "(I)I"⟩, (prog_5_method_7_code, (2, (some (.int), (2, (1, (694, (692, (693, 69)))))))))), (3, (⟨"CupsAndPea$Playe\x72", "isGone", "(III)Z"⟩, (prog_5_method_8_code, (3, (some (.boolean), (3, (0, (648, (647, (0, 69)))))))))), (3, (⟨"CupsAndPea$Playe\x72", "raised", "(I)I"⟩, (prog_5_method_9_code, (1, (some (.int), (1, (0, (673, (672, (0, 69)))))))))), (3, (⟨"CupsAndPea$Playe\x72", "lowered", "(I)I"⟩, (prog_5_method_10_code, (1, (some (.int), (1, (0, (676, (675, (0, 69)))))))))), (3, (⟨"CupsAndPea$Playe\x72", "mostOf", "(IIIII)I"⟩, (prog_5_method_11_code, (7, (some (.int), (5, (0, (697, (696, (0, 69)))))))))), (3, (⟨"CupsAndPea$Playe\x72", "winningFirst", "(IIII)I"⟩, (prog_5_method_12_code, (5, (some (.int), (4, (0, (700, (699, (0, 69))))))))))]
def zM_1 : List zMt := [(3, (⟨"CupsAndPea$Playe\x72", "losingFirst", "(IIIII)I"⟩, (prog_5_method_13_code, (6, (some (.int), (5, (0, (703, (702, (0, 69)))))))))), (4, (⟨"CupsAndPea$Search", "<init>", "()V"⟩, (prog_6_method_1_code, (1, (none, (1, (2, (237, (236, (0, 71)))))))))), (4, (⟨"CupsAndPea$Search", "start", "(LCupsAndPea$Table;LCupsAndPea$Sight;III)V"⟩, (prog_6_method_2_code, (6, (none, (6, (1, (564, (562, (563, 71)))))))))), (4, (⟨"CupsAndPea$Search", "seek", "(LCupsAndPea$Search;LCupsAndPea$Table;LCupsAndPea$Sight;II)V"⟩, (prog_6_method_3_code, (7, (none, (5, (0, (572, (571, (0, 71)))))))))), (4, (⟨"CupsAndPea$Search", "choose", "(LCupsAndPea$Search;LCupsAndPea$Table;LCupsAndPea$Sight;II)V"⟩, (prog_6_method_4_code, (8, (none, (5, (0, (576, (575, (0, 71)))))))))), (5, (⟨"CupsAndPea$Sheet", "<init>", "()V"⟩, (prog_7_method_1_code, (1, (none, (1, (2, (307, (306, (0, 74)))))))))), (5, (⟨"CupsAndPea$Sheet", "lay", "(II)V"⟩, (prog_7_method_2_code, (4, (none, (3, (1, (908, (906, (907, 74)))))))))), (5, (⟨"CupsAndPea$Sheet", "put", "(II)V"⟩, (prog_7_method_3_code, (3, (none, (3, (1, (916, (914, (915, 74)))))))))), (5, (⟨"CupsAndPea$Sheet", "has", "(II)Z"⟩, (prog_7_method_4_code, (3, (some (.boolean), (3, (1, (924, (922, (923, 74)))))))))), (6, (⟨"CupsAndPea$Sight", "<init>", "()V"⟩, (prog_8_method_1_code, (1, (none, (1, (2, (224, (223, (0, 70)))))))))), (6, (⟨"CupsAndPea$Sight", "follow", "(LCupsAndPea$Table;II)V"⟩, (prog_8_method_2_code, (7, (none, (4, (1, (477, (475, (476, 70)))))))))), (6, (⟨"CupsAndPea$Sight", "see", "(ILCupsAndPea$Pass;II)V"⟩, (prog_8_method_3_code, (6, (none, (5, (1, (488, (486, (487, 70)))))))))), (6, (⟨"CupsAndPea$Sight", "seenAt", "(ILCupsAndPea$Pass;III)J"⟩, (prog_8_method_4_code, (13, (some (.long), (6, (1, (492, (490, (491, 70)))))))))), (6, (⟨"CupsAndPea$Sight", "at", "(II)J"⟩, (prog_8_method_5_code, (3, (some (.long), (3, (1, (501, (499, (500, 70)))))))))), (6, (⟨"CupsAndPea$Sight", "likeliest", "(I)I"⟩, (prog_8_method_6_code, (4, (some (.int), (2, (1, (513, (511, (512, 70)))))))))), (6, (⟨"CupsAndPea$Sight", "likeliestWith", "(LCupsAndPea$Sight;I)I"⟩, (prog_8_method_7_code, (9, (some (.int), (3, (1, (534, (532, (533, 70)))))))))), (7, (⟨"CupsAndPea$Table", "<init>", "()V"⟩, (prog_9_method_1_code, (2, (none, (1, (2, (94, (93, (0, 66)))))))))), (7, (⟨"CupsAndPea$Table", "become", "(LCupsAndPea$Table;)V"⟩, (prog_9_method_2_code, (4, (none, (2, (1, (755, (753, (754, 66)))))))))), (7, (⟨"CupsAndPea$Table", "setCups", "(I)V"⟩, (prog_9_method_3_code, (3, (none, (2, (1, (372, (370, (371, 66)))))))))), (7, (⟨"CupsAndPea$Table", "add", "(III)V"⟩, (prog_9_method_4_code, (4, (none, (4, (1, (396, (394, (395, 66)))))))))), (7, (⟨"CupsAndPea$Table", "peaBehind", "(I)I"⟩, (prog_9_method_5_code, (4, (some (.int), (2, (1, (437, (435, (436, 66)))))))))), (7, (⟨"CupsAndPea$Table", "feintSets", "()I"⟩, (prog_9_method_6_code, (1, (some (.int), (1, (1, (593, (591, (592, 66)))))))))), (7, (⟨"CupsAndPea$Table", "peaWithFeints", "(I)I"⟩, (prog_9_method_7_code, (4, (some (.int), (2, (1, (598, (596, (597, 66)))))))))), (7, (⟨"CupsAndPea$Table", "playRound", "(IZ)I"⟩, (prog_9_method_8_code, (4, (some (.int), (3, (1, (665, (663, (664, 66)))))))))), (7, (⟨"CupsAndPea$Table", "whoLeft", "()I"⟩, (prog_9_method_9_code, (3, (some (.int), (1, (1, (721, (719, (720, 66))))))))))]
def zM_2 : List zMt := [(7, (⟨"CupsAndPea$Table", "draw", "(I)I"⟩, (prog_9_method_10_code, (2, (some (.int), (2, (1, (730, (728, (729, 66)))))))))), (7, (⟨"CupsAndPea$Table", "sumOfPlayers", "(I)I"⟩, (prog_9_method_11_code, (4, (some (.int), (2, (1, (953, (951, (952, 66)))))))))), (7, (⟨"CupsAndPea$Table", "sumOfSlips", "()I"⟩, (prog_9_method_12_code, (3, (some (.int), (1, (1, (958, (956, (957, 66)))))))))), (7, (⟨"CupsAndPea$Table", "fullSpots", "()I"⟩, (prog_9_method_13_code, (3, (some (.int), (1, (1, (962, (960, (961, 66)))))))))), (8, (⟨"CupsAndPea$Tape", "<init>", "()V"⟩, (prog_10_method_1_code, (1, (none, (1, (2, (279, (278, (0, 73)))))))))), (8, (⟨"CupsAndPea$Tape", "put", "(I)V"⟩, (prog_10_method_2_code, (2, (none, (2, (1, (743, (741, (742, 73)))))))))), (8, (⟨"CupsAndPea$Tape", "readOnto", "(LCupsAndPea$Table;)I"⟩, (prog_10_method_3_code, (3, (some (.int), (2, (1, (764, (762, (763, 73)))))))))), (8, (⟨"CupsAndPea$Tape", "readItem", "(LCupsAndPea$Table;)Z"⟩, (prog_10_method_4_code, (3, (some (.boolean), (2, (1, (777, (776, (12, 73)))))))))), (8, (⟨"CupsAndPea$Tape", "kindNamed", "()I"⟩, (prog_10_method_5_code, (2, (some (.int), (1, (1, (781, (780, (13, 73)))))))))), (8, (⟨"CupsAndPea$Tape", "nameOfKind", "(I)Ljava/lang/String;"⟩, (prog_10_method_6_code, (1, (some (.object "java/lang/String"), (1, (0, (784, (783, (0, 73)))))))))), (8, (⟨"CupsAndPea$Tape", "readPass", "(LCupsAndPea$Table;I)Z"⟩, (prog_10_method_7_code, (5, (some (.boolean), (3, (1, (847, (846, (15, 73)))))))))), (8, (⟨"CupsAndPea$Tape", "readPea", "(LCupsAndPea$Table;)Z"⟩, (prog_10_method_8_code, (3, (some (.boolean), (2, (1, (858, (857, (17, 73)))))))))), (8, (⟨"CupsAndPea$Tape", "readEye", "(LCupsAndPea$Table;)Z"⟩, (prog_10_method_9_code, (4, (some (.boolean), (2, (1, (864, (863, (18, 73)))))))))), (8, (⟨"CupsAndPea$Tape", "readPlaye\x72", "(LCupsAndPea$Table;)Z"⟩, (prog_10_method_10_code, (5, (some (.boolean), (2, (1, (870, (869, (19, 73)))))))))), (8, (⟨"CupsAndPea$Tape", "nameOfOwn", "(I)Ljava/lang/String;"⟩, (prog_10_method_11_code, (1, (some (.object "java/lang/String"), (1, (0, (873, (872, (0, 73)))))))))), (8, (⟨"CupsAndPea$Tape", "takeNumbe\x72", "(II)I"⟩, (prog_10_method_12_code, (4, (some (.int), (3, (1, (851, (850, (16, 73)))))))))), (8, (⟨"CupsAndPea$Tape", "isWord", "(Ljava/lang/String;)Z"⟩, (prog_10_method_13_code, (3, (some (.boolean), (2, (1, (795, (794, (14, 73)))))))))), (8, (⟨"CupsAndPea$Tape", "step", "()V"⟩, (prog_10_method_14_code, (1, (none, (1, (1, (768, (767, (10, 73)))))))))), (8, (⟨"CupsAndPea$Tape", "sortAt", "(I)I"⟩, (prog_10_method_15_code, (3, (some (.int), (2, (1, (772, (771, (11, 73)))))))))), (9, (⟨"CupsAndPea", "<init>", "()V"⟩, (prog_1_method_1_code, (2, (none, (1, (2, (86, (85, (0, 65)))))))))), (9, (⟨"CupsAndPea", "cups", "(I)I"⟩, (prog_1_method_2_code, (3, (some (.int), (2, (1, (359, (357, (358, 65)))))))))), (9, (⟨"CupsAndPea", "pea", "(I)I"⟩, (prog_1_method_3_code, (3, (some (.int), (2, (1, (376, (374, (375, 65)))))))))), (9, (⟨"CupsAndPea", "pass", "(III)I"⟩, (prog_1_method_4_code, (4, (some (.int), (4, (1, (388, (386, (387, 65)))))))))), (9, (⟨"CupsAndPea", "of", "(II)I"⟩, (prog_1_method_5_code, (4, (some (.int), (3, (1, (404, (402, (403, 65)))))))))), (9, (⟨"CupsAndPea", "change", "(II)I"⟩, (prog_1_method_6_code, (4, (some (.int), (3, (1, (420, (418, (419, 65))))))))))]
def zM_3 : List zMt := [(9, (⟨"CupsAndPea", "back", "()I"⟩, (prog_1_method_7_code, (1, (some (.int), (1, (1, (424, (422, (423, 65)))))))))), (9, (⟨"CupsAndPea", "where", "(I)I"⟩, (prog_1_method_8_code, (2, (some (.int), (2, (1, (429, (427, (428, 65)))))))))), (9, (⟨"CupsAndPea", "goes", "(II)I"⟩, (prog_1_method_9_code, (5, (some (.int), (3, (1, (456, (454, (455, 65)))))))))), (9, (⟨"CupsAndPea", "moves", "()I"⟩, (prog_1_method_10_code, (5, (some (.int), (1, (1, (461, (459, (460, 65)))))))))), (9, (⟨"CupsAndPea", "eye", "(III)I"⟩, (prog_1_method_11_code, (6, (some (.int), (4, (1, (466, (464, (465, 65)))))))))), (9, (⟨"CupsAndPea", "weight", "(III)J"⟩, (prog_1_method_12_code, (4, (some (.long), (4, (1, (473, (471, (472, 65)))))))))), (9, (⟨"CupsAndPea", "guess", "(I)I"⟩, (prog_1_method_13_code, (2, (some (.int), (2, (1, (505, (503, (504, 65)))))))))), (9, (⟨"CupsAndPea", "right", "(I)J"⟩, (prog_1_method_14_code, (2, (some (.long), (2, (1, (517, (515, (516, 65)))))))))), (9, (⟨"CupsAndPea", "lost", "(I)I"⟩, (prog_1_method_15_code, (3, (some (.int), (2, (1, (525, (523, (524, 65)))))))))), (9, (⟨"CupsAndPea", "both", "(II)I"⟩, (prog_1_method_16_code, (4, (some (.int), (3, (1, (529, (527, (528, 65)))))))))), (9, (⟨"CupsAndPea", "may", "(I)I"⟩, (prog_1_method_17_code, (4, (some (.int), (2, (1, (538, (536, (537, 65)))))))))), (9, (⟨"CupsAndPea", "watch", "(I)I"⟩, (prog_1_method_18_code, (8, (some (.int), (2, (1, (542, (540, (541, 65)))))))))), (9, (⟨"CupsAndPea", "feint", "(I)I"⟩, (prog_1_method_19_code, (8, (some (.int), (2, (1, (547, (545, (546, 65)))))))))), (9, (⟨"CupsAndPea", "kindFo\x72", "(II)I"⟩, (prog_1_method_20_code, (9, (some (.int), (3, (1, (556, (554, (555, 65)))))))))), (9, (⟨"CupsAndPea", "misled", "(III)J"⟩, (prog_1_method_21_code, (4, (some (.long), (4, (1, (560, (558, (559, 65)))))))))), (9, (⟨"CupsAndPea", "row", "(IIII)I"⟩, (prog_1_method_22_code, (5, (some (.int), (5, (1, (585, (583, (584, 65)))))))))), (9, (⟨"CupsAndPea", "feints", "(I)I"⟩, (prog_1_method_23_code, (5, (some (.int), (2, (1, (589, (587, (588, 65)))))))))), (9, (⟨"CupsAndPea", "surely", "(II)I"⟩, (prog_1_method_24_code, (8, (some (.int), (3, (1, (602, (600, (601, 65)))))))))), (9, (⟨"CupsAndPea", "rings", "()I"⟩, (prog_1_method_25_code, (4, (some (.int), (1, (1, (606, (604, (605, 65)))))))))), (9, (⟨"CupsAndPea", "orders", "(I)I"⟩, (prog_1_method_26_code, (2, (some (.int), (2, (1, (613, (611, (612, 65)))))))))), (9, (⟨"CupsAndPea", "playe\x72", "(III)I"⟩, (prog_1_method_27_code, (6, (some (.int), (4, (1, (630, (628, (629, 65)))))))))), (9, (⟨"CupsAndPea", "told", "(II)I"⟩, (prog_1_method_28_code, (3, (some (.int), (3, (1, (656, (654, (655, 65)))))))))), (9, (⟨"CupsAndPea", "round", "(II)I"⟩, (prog_1_method_29_code, (3, (some (.int), (3, (1, (660, (658, (659, 65)))))))))), (9, (⟨"CupsAndPea", "play", "(II)I"⟩, (prog_1_method_30_code, (4, (some (.int), (3, (1, (683, (681, (682, 65)))))))))), (9, (⟨"CupsAndPea", "best", "(II)I"⟩, (prog_1_method_31_code, (3, (some (.int), (3, (1, (687, (685, (686, 65))))))))))]
def zM_4 : List zMt := [(9, (⟨"CupsAndPea", "should", "(II)I"⟩, (prog_1_method_32_code, (6, (some (.int), (3, (1, (707, (705, (706, 65)))))))))), (9, (⟨"CupsAndPea", "richest", "(I)I"⟩, (prog_1_method_33_code, (6, (some (.int), (2, (1, (713, (711, (712, 65)))))))))), (9, (⟨"CupsAndPea", "now", "(I)I"⟩, (prog_1_method_34_code, (2, (some (.int), (2, (1, (717, (715, (716, 65)))))))))), (9, (⟨"CupsAndPea", "shuffle", "(I)I"⟩, (prog_1_method_35_code, (7, (some (.int), (2, (1, (726, (724, (725, 65)))))))))), (9, (⟨"CupsAndPea", "seed", "(I)I"⟩, (prog_1_method_36_code, (3, (some (.int), (2, (1, (735, (733, (734, 65)))))))))), (9, (⟨"CupsAndPea", "feed", "(II)I"⟩, (prog_1_method_37_code, (4, (some (.int), (3, (1, (739, (737, (738, 65)))))))))), (9, (⟨"CupsAndPea", "wipe", "()I"⟩, (prog_1_method_38_code, (2, (some (.int), (1, (1, (747, (745, (746, 65)))))))))), (9, (⟨"CupsAndPea", "text", "()I"⟩, (prog_1_method_39_code, (2, (some (.int), (1, (1, (751, (749, (750, 65)))))))))), (9, (⟨"CupsAndPea", "hold", "(II)I"⟩, (prog_1_method_40_code, (3, (some (.int), (3, (1, (883, (881, (882, 65)))))))))), (9, (⟨"CupsAndPea", "as", "(II)I"⟩, (prog_1_method_41_code, (4, (some (.int), (3, (1, (887, (885, (886, 65)))))))))), (9, (⟨"CupsAndPea", "sheet", "(III)I"⟩, (prog_1_method_42_code, (4, (some (.int), (4, (1, (898, (896, (897, 65)))))))))), (9, (⟨"CupsAndPea", "write", "(III)I"⟩, (prog_1_method_43_code, (4, (some (.int), (4, (1, (912, (910, (911, 65)))))))))), (9, (⟨"CupsAndPea", "copy", "(IIIII)I"⟩, (prog_1_method_44_code, (8, (some (.int), (6, (1, (920, (918, (919, 65)))))))))), (9, (⟨"CupsAndPea", "load", "(I)I"⟩, (prog_1_method_45_code, (4, (some (.int), (2, (1, (929, (927, (928, 65)))))))))), (9, (⟨"CupsAndPea", "judge", "(I)I"⟩, (prog_1_method_46_code, (4, (some (.int), (2, (1, (933, (931, (932, 65)))))))))), (9, (⟨"CupsAndPea", "image", "()I"⟩, (prog_1_method_47_code, (1, (some (.int), (1, (1, (937, (935, (936, 65)))))))))), (9, (⟨"CupsAndPea", "undo", "()I"⟩, (prog_1_method_48_code, (1, (some (.int), (1, (1, (941, (939, (940, 65)))))))))), (9, (⟨"CupsAndPea", "tea\x72", "()I"⟩, (prog_1_method_49_code, (2, (some (.int), (1, (1, (945, (943, (944, 65)))))))))), (9, (⟨"CupsAndPea", "count", "(I)I"⟩, (prog_1_method_50_code, (2, (some (.int), (2, (1, (949, (947, (948, 65)))))))))), (9, (⟨"CupsAndPea", "status", "(I)I"⟩, (prog_1_method_51_code, (4, (some (.int), (2, (1, (966, (964, (965, 65)))))))))), (9, (⟨"CupsAndPea", "tell", "(I)I"⟩, (prog_1_method_52_code, (2, (some (.int), (2, (1, (367, (366, (0, 65)))))))))), (9, (⟨"CupsAndPea", "likeliest", "(I)I"⟩, (prog_1_method_53_code, (2, (some (.int), (2, (1, (509, (508, (6, 65)))))))))), (9, (⟨"CupsAndPea", "rightOf", "(II)J"⟩, (prog_1_method_54_code, (3, (some (.long), (3, (1, (521, (520, (7, 65)))))))))), (9, (⟨"CupsAndPea", "rightIf", "(III)J"⟩, (prog_1_method_55_code, (7, (some (.long), (4, (1, (552, (551, (8, 65)))))))))), (9, (⟨"CupsAndPea", "isPlace", "(I)Z"⟩, (prog_1_method_56_code, (2, (some (.boolean), (2, (1, (384, (383, (2, 65))))))))))]
def zM_5 : List zMt := [(9, (⟨"CupsAndPea", "isPlaceOrHand", "(I)Z"⟩, (prog_1_method_57_code, (2, (some (.boolean), (2, (1, (380, (379, (1, 65)))))))))), (9, (⟨"CupsAndPea", "isPass", "(I)Z"⟩, (prog_1_method_58_code, (2, (some (.boolean), (2, (1, (408, (407, (3, 65)))))))))), (9, (⟨"CupsAndPea", "isBehind", "(I)Z"⟩, (prog_1_method_59_code, (2, (some (.boolean), (2, (1, (433, (432, (4, 65)))))))))), (9, (⟨"CupsAndPea", "isKind", "(I)Z"⟩, (prog_1_method_60_code, (1, (some (.boolean), (1, (0, (391, (390, (0, 65)))))))))), (9, (⟨"CupsAndPea", "isEye", "(I)Z"⟩, (prog_1_method_61_code, (1, (some (.boolean), (1, (0, (469, (468, (0, 65)))))))))), (9, (⟨"CupsAndPea", "isPlaye\x72", "(I)Z"⟩, (prog_1_method_62_code, (1, (some (.boolean), (1, (0, (633, (632, (0, 65)))))))))), (9, (⟨"CupsAndPea", "isRounds", "(I)Z"⟩, (prog_1_method_63_code, (1, (some (.boolean), (1, (0, (690, (689, (0, 65)))))))))), (9, (⟨"CupsAndPea", "isSheet", "(I)Z"⟩, (prog_1_method_64_code, (1, (some (.boolean), (1, (0, (901, (900, (0, 65)))))))))), (9, (⟨"CupsAndPea", "isBits", "(I)Z"⟩, (prog_1_method_65_code, (1, (some (.boolean), (1, (0, (904, (903, (0, 65)))))))))), (9, (⟨"CupsAndPea", "within", "(III)Z"⟩, (prog_1_method_66_code, (3, (some (.boolean), (3, (0, (362, (361, (0, 65)))))))))), (9, (⟨"CupsAndPea", "isUnde\x72", "(II)Z"⟩, (prog_1_method_67_code, (4, (some (.boolean), (2, (0, (891, (890, (0, 65)))))))))), (9, (⟨"CupsAndPea", "ringAt", "(I)I"⟩, (prog_1_method_68_code, (3, (some (.int), (1, (0, (609, (608, (0, 65)))))))))), (9, (⟨"CupsAndPea", "swapped", "(III)I"⟩, (prog_1_method_69_code, (3, (some (.int), (3, (0, (452, (451, (0, 65)))))))))), (9, (⟨"CupsAndPea", "next", "(II)I"⟩, (prog_1_method_70_code, (2, (some (.int), (2, (0, (496, (495, (0, 65)))))))))), (10, (⟨"CupsAndPeaModel", "<init>", "()V"⟩, (prog_12_method_1_code, (2, (none, (1, (2, (971, (970, (0, 75)))))))))), (10, (⟨"CupsAndPeaModel", "finds", "(I)I"⟩, (prog_12_method_3_code, (2, (some (.int), (2, (1, (1079, (1078, (20, 75)))))))))), (10, (⟨"CupsAndPeaModel", "in", "(JJJ)Z"⟩, (prog_12_method_4_code, (6, (some (.boolean), (3, (0, (1075, (1074, (0, 75)))))))))), (10, (⟨"CupsAndPeaModel", "copies", "([I[I)V"⟩, (prog_12_method_5_code, (3, (none, (2, (0, (1332, (1331, (0, 75)))))))))), (10, (⟨"CupsAndPeaModel", "isPlace", "(I)Z"⟩, (prog_12_method_6_code, (2, (some (.boolean), (2, (1, (1093, (1092, (21, 75)))))))))), (10, (⟨"CupsAndPeaModel", "isPass", "(I)Z"⟩, (prog_12_method_7_code, (2, (some (.boolean), (2, (1, (1105, (1104, (23, 75)))))))))), (10, (⟨"CupsAndPeaModel", "isFou\x72", "(I)Z"⟩, (prog_12_method_8_code, (1, (some (.boolean), (1, (0, (1156, (1155, (0, 75)))))))))), (10, (⟨"CupsAndPeaModel", "its", "(II)I"⟩, (prog_12_method_9_code, (3, (some (.int), (3, (1, (1109, (1108, (24, 75)))))))))), (10, (⟨"CupsAndPeaModel", "third", "(II)I"⟩, (prog_12_method_10_code, (3, (some (.int), (2, (0, (1116, (1115, (0, 75)))))))))), (10, (⟨"CupsAndPeaModel", "swapped", "(III)I"⟩, (prog_12_method_11_code, (3, (some (.int), (3, (0, (1141, (1140, (0, 75)))))))))), (10, (⟨"CupsAndPeaModel", "cupBy", "(IIII)I"⟩, (prog_12_method_12_code, (5, (some (.int), (4, (0, (1138, (1137, (0, 75))))))))))]
def zM_6 : List zMt := [(10, (⟨"CupsAndPeaModel", "peaBy", "(IIII)I"⟩, (prog_12_method_13_code, (5, (some (.int), (4, (0, (1135, (1134, (0, 75)))))))))), (10, (⟨"CupsAndPeaModel", "seen", "(I)I"⟩, (prog_12_method_14_code, (2, (some (.int), (2, (1, (1113, (1112, (25, 75)))))))))), (10, (⟨"CupsAndPeaModel", "cups", "(I)I"⟩, (prog_12_method_15_code, (4, (some (.int), (2, (1, (1070, (1068, (1069, 75)))))))))), (10, (⟨"CupsAndPeaModel", "pea", "(I)I"⟩, (prog_12_method_16_code, (3, (some (.int), (2, (1, (1084, (1082, (1083, 75)))))))))), (10, (⟨"CupsAndPeaModel", "comes", "(III)I"⟩, (prog_12_method_17_code, (5, (some (.int), (4, (1, (1097, (1096, (22, 75)))))))))), (10, (⟨"CupsAndPeaModel", "pass", "(III)I"⟩, (prog_12_method_18_code, (4, (some (.int), (4, (1, (1089, (1087, (1088, 75)))))))))), (10, (⟨"CupsAndPeaModel", "of", "(II)I"⟩, (prog_12_method_19_code, (3, (some (.int), (3, (1, (1101, (1099, (1100, 75)))))))))), (10, (⟨"CupsAndPeaModel", "change", "(II)I"⟩, (prog_12_method_20_code, (4, (some (.int), (3, (1, (1120, (1118, (1119, 75)))))))))), (10, (⟨"CupsAndPeaModel", "back", "()I"⟩, (prog_12_method_21_code, (1, (some (.int), (1, (1, (1124, (1122, (1123, 75)))))))))), (10, (⟨"CupsAndPeaModel", "peaBehind", "(I)I"⟩, (prog_12_method_22_code, (4, (some (.int), (2, (1, (1132, (1131, (26, 75)))))))))), (10, (⟨"CupsAndPeaModel", "where", "(I)I"⟩, (prog_12_method_23_code, (2, (some (.int), (2, (1, (1128, (1126, (1127, 75)))))))))), (10, (⟨"CupsAndPeaModel", "goes", "(II)I"⟩, (prog_12_method_24_code, (5, (some (.int), (3, (1, (1145, (1143, (1144, 75)))))))))), (10, (⟨"CupsAndPeaModel", "moves", "()I"⟩, (prog_12_method_25_code, (5, (some (.int), (1, (1, (1149, (1147, (1148, 75)))))))))), (10, (⟨"CupsAndPeaModel", "slips", "(II)I"⟩, (prog_12_method_26_code, (4, (some (.int), (3, (1, (1173, (1172, (29, 75)))))))))), (10, (⟨"CupsAndPeaModel", "beginsBy", "(I)V"⟩, (prog_12_method_27_code, (3, (none, (2, (1, (1169, (1168, (28, 75)))))))))), (10, (⟨"CupsAndPeaModel", "looksAt", "(III)V"⟩, (prog_12_method_28_code, (6, (none, (4, (1, (1177, (1176, (30, 75)))))))))), (10, (⟨"CupsAndPeaModel", "watches", "(III)V"⟩, (prog_12_method_29_code, (5, (none, (4, (1, (1165, (1164, (27, 75)))))))))), (10, (⟨"CupsAndPeaModel", "heaviest", "()I"⟩, (prog_12_method_30_code, (3, (some (.int), (1, (1, (1189, (1188, (32, 75)))))))))), (10, (⟨"CupsAndPeaModel", "eye", "(III)I"⟩, (prog_12_method_31_code, (5, (some (.int), (4, (1, (1153, (1151, (1152, 75)))))))))), (10, (⟨"CupsAndPeaModel", "weight", "(III)J"⟩, (prog_12_method_32_code, (4, (some (.long), (4, (1, (1161, (1159, (1160, 75)))))))))), (10, (⟨"CupsAndPeaModel", "guessBehind", "(II)I"⟩, (prog_12_method_33_code, (3, (some (.int), (3, (1, (1185, (1184, (31, 75)))))))))), (10, (⟨"CupsAndPeaModel", "guess", "(I)I"⟩, (prog_12_method_34_code, (2, (some (.int), (2, (1, (1181, (1179, (1180, 75)))))))))), (10, (⟨"CupsAndPeaModel", "rightNow", "(I)J"⟩, (prog_12_method_35_code, (2, (some (.long), (2, (1, (1201, (1200, (34, 75)))))))))), (10, (⟨"CupsAndPeaModel", "rightOf", "(II)J"⟩, (prog_12_method_36_code, (3, (some (.long), (3, (1, (1197, (1196, (33, 75)))))))))), (10, (⟨"CupsAndPeaModel", "right", "(I)J"⟩, (prog_12_method_37_code, (2, (some (.long), (2, (1, (1193, (1191, (1192, 75))))))))))]
def zM_7 : List zMt := [(10, (⟨"CupsAndPeaModel", "lost", "(I)I"⟩, (prog_12_method_38_code, (3, (some (.int), (2, (1, (1205, (1203, (1204, 75)))))))))), (10, (⟨"CupsAndPeaModel", "both", "(II)I"⟩, (prog_12_method_39_code, (4, (some (.int), (3, (1, (1209, (1207, (1208, 75)))))))))), (10, (⟨"CupsAndPeaModel", "may", "(I)I"⟩, (prog_12_method_40_code, (4, (some (.int), (2, (1, (1213, (1211, (1212, 75)))))))))), (10, (⟨"CupsAndPeaModel", "watch", "(I)I"⟩, (prog_12_method_41_code, (8, (some (.int), (2, (1, (1217, (1215, (1216, 75)))))))))), (10, (⟨"CupsAndPeaModel", "rightAs", "(III)J"⟩, (prog_12_method_42_code, (7, (some (.long), (4, (1, (1225, (1224, (35, 75)))))))))), (10, (⟨"CupsAndPeaModel", "feint", "(I)I"⟩, (prog_12_method_43_code, (8, (some (.int), (2, (1, (1221, (1219, (1220, 75)))))))))), (10, (⟨"CupsAndPeaModel", "kindFo\x72", "(II)I"⟩, (prog_12_method_44_code, (9, (some (.int), (3, (1, (1229, (1227, (1228, 75)))))))))), (10, (⟨"CupsAndPeaModel", "layPairs", "()V"⟩, (prog_12_method_45_code, (3, (none, (1, (1, (1246, (1245, (38, 75)))))))))), (10, (⟨"CupsAndPeaModel", "pairOf", "(III)I"⟩, (prog_12_method_46_code, (6, (some (.int), (4, (1, (1250, (1249, (39, 75)))))))))), (10, (⟨"CupsAndPeaModel", "findMisled", "(III)V"⟩, (prog_12_method_47_code, (13, (none, (4, (1, (1242, (1241, (37, 75)))))))))), (10, (⟨"CupsAndPeaModel", "whyMisled", "(III)I"⟩, (prog_12_method_48_code, (4, (some (.int), (4, (1, (1237, (1236, (36, 75)))))))))), (10, (⟨"CupsAndPeaModel", "misled", "(III)J"⟩, (prog_12_method_49_code, (5, (some (.long), (4, (1, (1233, (1231, (1232, 75)))))))))), (10, (⟨"CupsAndPeaModel", "row", "(IIII)I"⟩, (prog_12_method_50_code, (7, (some (.int), (5, (1, (1254, (1252, (1253, 75)))))))))), (10, (⟨"CupsAndPeaModel", "findFeints", "(I)V"⟩, (prog_12_method_51_code, (6, (none, (2, (1, (1266, (1265, (41, 75)))))))))), (10, (⟨"CupsAndPeaModel", "isWhere", "(I)Z"⟩, (prog_12_method_52_code, (2, (some (.boolean), (2, (1, (1262, (1261, (40, 75)))))))))), (10, (⟨"CupsAndPeaModel", "feints", "(I)I"⟩, (prog_12_method_53_code, (2, (some (.int), (2, (1, (1258, (1256, (1257, 75)))))))))), (10, (⟨"CupsAndPeaModel", "surely", "(II)I"⟩, (prog_12_method_54_code, (3, (some (.int), (3, (1, (1270, (1268, (1269, 75)))))))))), (10, (⟨"CupsAndPeaModel", "powe\x72", "(I)I"⟩, (prog_12_method_55_code, (3, (some (.int), (1, (0, (1278, (1277, (0, 75)))))))))), (10, (⟨"CupsAndPeaModel", "rings", "()I"⟩, (prog_12_method_56_code, (3, (some (.int), (1, (1, (1275, (1273, (1274, 75)))))))))), (10, (⟨"CupsAndPeaModel", "orders", "(I)I"⟩, (prog_12_method_57_code, (7, (some (.int), (2, (1, (1282, (1280, (1281, 75)))))))))), (10, (⟨"CupsAndPeaModel", "whose", "(II)I"⟩, (prog_12_method_58_code, (3, (some (.int), (3, (1, (1293, (1292, (42, 75)))))))))), (10, (⟨"CupsAndPeaModel", "sets", "(III)V"⟩, (prog_12_method_59_code, (4, (none, (4, (1, (1297, (1296, (43, 75)))))))))), (10, (⟨"CupsAndPeaModel", "hasLeft", "(I)Z"⟩, (prog_12_method_60_code, (2, (some (.boolean), (2, (1, (1305, (1304, (44, 75)))))))))), (10, (⟨"CupsAndPeaModel", "playe\x72", "(III)I"⟩, (prog_12_method_61_code, (5, (some (.int), (4, (1, (1286, (1284, (1285, 75)))))))))), (10, (⟨"CupsAndPeaModel", "told", "(II)I"⟩, (prog_12_method_62_code, (3, (some (.int), (3, (1, (1301, (1299, (1300, 75))))))))))]
def zM_8 : List zMt := [(10, (⟨"CupsAndPeaModel", "aRound", "(IZ)I"⟩, (prog_12_method_63_code, (5, (some (.int), (3, (1, (1313, (1312, (45, 75)))))))))), (10, (⟨"CupsAndPeaModel", "round", "(II)I"⟩, (prog_12_method_64_code, (3, (some (.int), (3, (1, (1309, (1307, (1308, 75)))))))))), (10, (⟨"CupsAndPeaModel", "play", "(II)I"⟩, (prog_12_method_65_code, (5, (some (.int), (3, (1, (1317, (1315, (1316, 75)))))))))), (10, (⟨"CupsAndPeaModel", "tries", "(II)V"⟩, (prog_12_method_66_code, (7, (none, (3, (1, (1329, (1328, (47, 75)))))))))), (10, (⟨"CupsAndPeaModel", "bestOf", "(II)I"⟩, (prog_12_method_67_code, (3, (some (.int), (3, (1, (1325, (1324, (46, 75)))))))))), (10, (⟨"CupsAndPeaModel", "best", "(II)I"⟩, (prog_12_method_68_code, (3, (some (.int), (3, (1, (1321, (1319, (1320, 75)))))))))), (10, (⟨"CupsAndPeaModel", "should", "(II)I"⟩, (prog_12_method_69_code, (4, (some (.int), (3, (1, (1336, (1334, (1335, 75)))))))))), (10, (⟨"CupsAndPeaModel", "richest", "(I)I"⟩, (prog_12_method_70_code, (6, (some (.int), (2, (1, (1340, (1338, (1339, 75)))))))))), (10, (⟨"CupsAndPeaModel", "now", "(I)I"⟩, (prog_12_method_71_code, (4, (some (.int), (2, (1, (1344, (1342, (1343, 75)))))))))), (10, (⟨"CupsAndPeaModel", "drawn", "()I"⟩, (prog_12_method_72_code, (1, (some (.int), (1, (1, (1353, (1352, (48, 75)))))))))), (10, (⟨"CupsAndPeaModel", "shuffle", "(I)I"⟩, (prog_12_method_73_code, (7, (some (.int), (2, (1, (1348, (1346, (1347, 75)))))))))), (10, (⟨"CupsAndPeaModel", "seed", "(I)I"⟩, (prog_12_method_74_code, (3, (some (.int), (2, (1, (1358, (1356, (1357, 75)))))))))), (10, (⟨"CupsAndPeaModel", "feed", "(II)I"⟩, (prog_12_method_75_code, (4, (some (.int), (3, (1, (1362, (1360, (1361, 75)))))))))), (10, (⟨"CupsAndPeaModel", "wipe", "()I"⟩, (prog_12_method_76_code, (2, (some (.int), (1, (1, (1366, (1364, (1365, 75)))))))))), (10, (⟨"CupsAndPeaModel", "lette\x72", "(I)I"⟩, (prog_12_method_77_code, (1, (some (.int), (1, (0, (1385, (1384, (0, 75)))))))))), (10, (⟨"CupsAndPeaModel", "isDigit", "(I)Z"⟩, (prog_12_method_78_code, (1, (some (.boolean), (1, (0, (1390, (1389, (0, 75)))))))))), (10, (⟨"CupsAndPeaModel", "byteAt", "(I)I"⟩, (prog_12_method_79_code, (2, (some (.int), (2, (1, (1382, (1381, (51, 75)))))))))), (10, (⟨"CupsAndPeaModel", "next", "()V"⟩, (prog_12_method_80_code, (2, (none, (1, (1, (1378, (1377, (50, 75)))))))))), (10, (⟨"CupsAndPeaModel", "wrongHere", "()V"⟩, (prog_12_method_81_code, (1, (none, (1, (1, (1418, (1417, (56, 75)))))))))), (10, (⟨"CupsAndPeaModel", "isWord", "(J)Z"⟩, (prog_12_method_82_code, (3, (some (.boolean), (2, (1, (1404, (1403, (54, 75)))))))))), (10, (⟨"CupsAndPeaModel", "kindHere", "()I"⟩, (prog_12_method_83_code, (1, (some (.int), (1, (1, (1399, (1398, (53, 75)))))))))), (10, (⟨"CupsAndPeaModel", "numberHere", "(II)I"⟩, (prog_12_method_84_code, (4, (some (.int), (3, (1, (1422, (1421, (57, 75)))))))))), (10, (⟨"CupsAndPeaModel", "passHere", "(I)V"⟩, (prog_12_method_85_code, (5, (none, (2, (1, (1414, (1413, (55, 75)))))))))), (10, (⟨"CupsAndPeaModel", "peaHere", "()V"⟩, (prog_12_method_86_code, (2, (none, (1, (1, (1427, (1426, (58, 75)))))))))), (10, (⟨"CupsAndPeaModel", "eyeHere", "()V"⟩, (prog_12_method_87_code, (3, (none, (1, (1, (1433, (1432, (59, 75))))))))))]
def zM_9 : List zMt := [(10, (⟨"CupsAndPeaModel", "playerHere", "()V"⟩, (prog_12_method_88_code, (5, (none, (1, (1, (1439, (1438, (60, 75)))))))))), (10, (⟨"CupsAndPeaModel", "item", "()V"⟩, (prog_12_method_89_code, (2, (none, (1, (1, (1395, (1394, (52, 75)))))))))), (10, (⟨"CupsAndPeaModel", "items", "()I"⟩, (prog_12_method_90_code, (2, (some (.int), (1, (1, (1374, (1373, (49, 75)))))))))), (10, (⟨"CupsAndPeaModel", "text", "()I"⟩, (prog_12_method_91_code, (2, (some (.int), (1, (1, (1370, (1368, (1369, 75)))))))))), (10, (⟨"CupsAndPeaModel", "hold", "(II)I"⟩, (prog_12_method_92_code, (3, (some (.int), (3, (1, (1446, (1444, (1445, 75)))))))))), (10, (⟨"CupsAndPeaModel", "above", "(I)I"⟩, (prog_12_method_93_code, (1, (some (.int), (1, (0, (1453, (1452, (0, 75)))))))))), (10, (⟨"CupsAndPeaModel", "as", "(II)I"⟩, (prog_12_method_94_code, (5, (some (.int), (3, (1, (1450, (1448, (1449, 75)))))))))), (10, (⟨"CupsAndPeaModel", "isSheet", "(I)Z"⟩, (prog_12_method_95_code, (1, (some (.boolean), (1, (0, (1460, (1459, (0, 75)))))))))), (10, (⟨"CupsAndPeaModel", "sheet", "(III)I"⟩, (prog_12_method_96_code, (5, (some (.int), (4, (1, (1457, (1455, (1456, 75)))))))))), (10, (⟨"CupsAndPeaModel", "whyNone", "(I)I"⟩, (prog_12_method_97_code, (2, (some (.int), (2, (1, (1468, (1467, (61, 75)))))))))), (10, (⟨"CupsAndPeaModel", "write", "(III)I"⟩, (prog_12_method_98_code, (5, (some (.int), (4, (1, (1464, (1462, (1463, 75)))))))))), (10, (⟨"CupsAndPeaModel", "copy", "(IIIII)I"⟩, (prog_12_method_99_code, (7, (some (.int), (6, (1, (1472, (1470, (1471, 75)))))))))), (10, (⟨"CupsAndPeaModel", "load", "(I)I"⟩, (prog_12_method_100_code, (4, (some (.int), (2, (1, (1476, (1474, (1475, 75)))))))))), (10, (⟨"CupsAndPeaModel", "judge", "(I)I"⟩, (prog_12_method_101_code, (4, (some (.int), (2, (1, (1480, (1478, (1479, 75)))))))))), (10, (⟨"CupsAndPeaModel", "image", "()I"⟩, (prog_12_method_102_code, (1, (some (.int), (1, (1, (1484, (1482, (1483, 75)))))))))), (10, (⟨"CupsAndPeaModel", "undo", "()I"⟩, (prog_12_method_103_code, (1, (some (.int), (1, (1, (1488, (1486, (1487, 75)))))))))), (10, (⟨"CupsAndPeaModel", "tea\x72", "()I"⟩, (prog_12_method_104_code, (2, (some (.int), (1, (1, (1492, (1490, (1491, 75)))))))))), (10, (⟨"CupsAndPeaModel", "sumOf", "(II)I"⟩, (prog_12_method_105_code, (5, (some (.int), (3, (1, (1500, (1499, (62, 75)))))))))), (10, (⟨"CupsAndPeaModel", "holding", "()I"⟩, (prog_12_method_106_code, (3, (some (.int), (1, (1, (1504, (1503, (63, 75)))))))))), (10, (⟨"CupsAndPeaModel", "count", "(I)I"⟩, (prog_12_method_107_code, (2, (some (.int), (2, (1, (1496, (1494, (1495, 75)))))))))), (10, (⟨"CupsAndPeaModel", "status", "(I)I"⟩, (prog_12_method_108_code, (4, (some (.int), (2, (1, (1508, (1506, (1507, 75))))))))))]
def zM : List zMt := zM_0 ++ (zM_1 ++ (zM_2 ++ (zM_3 ++ (zM_4 ++ (zM_5 ++ (zM_6 ++ (zM_7 ++ (zM_8 ++ (zM_9)))))))))
/-- what a method is: 1 it answers a boolean, 2 a constructor, 0 else -/
def zmode (q : zMt) : Nat := match q.2.2.2.2.1 with
  | some .boolean => 1
  | _ => if q.2.2.2.2.2.2.1 = 2 then 2 else 0
abbrev m_Eye_init : Nat := 0
abbrev m_Orders_init : Nat := 1
abbrev m_Orders_thatEnd : Nat := 2
abbrev m_Orders_goOn : Nat := 3
abbrev m_Orders_index : Nat := 4
abbrev m_Pass_init : Nat := 5
abbrev m_Pass_set : Nat := 6
abbrev m_Pass_third : Nat := 7
abbrev m_Pass_looksTo : Nat := 8
abbrev m_Pass_thingBehind : Nat := 9
abbrev m_Pass_whirled : Nat := 10
abbrev m_Pass_peaBehind : Nat := 11
abbrev m_Pass_slipOf : Nat := 12
abbrev m_Player_init : Nat := 13
abbrev m_Player_tells : Nat := 14
abbrev m_Player_become : Nat := 15
abbrev m_Player_become_ : Nat := 16
abbrev m_Player_hasLeft : Nat := 17
abbrev m_Player_stakes : Nat := 18
abbrev m_Player_brings : Nat := 19
abbrev m_Player_isGone : Nat := 20
abbrev m_Player_raised : Nat := 21
abbrev m_Player_lowered : Nat := 22
abbrev m_Player_mostOf : Nat := 23
abbrev m_Player_winningFirst : Nat := 24
abbrev m_Player_losingFirst : Nat := 25
abbrev m_Search_init : Nat := 26
abbrev m_Search_start : Nat := 27
abbrev m_Search_seek : Nat := 28
abbrev m_Search_choose : Nat := 29
abbrev m_Sheet_init : Nat := 30
abbrev m_Sheet_lay : Nat := 31
abbrev m_Sheet_put : Nat := 32
abbrev m_Sheet_has : Nat := 33
abbrev m_Sight_init : Nat := 34
abbrev m_Sight_follow : Nat := 35
abbrev m_Sight_see : Nat := 36
abbrev m_Sight_seenAt : Nat := 37
abbrev m_Sight_at : Nat := 38
abbrev m_Sight_likeliest : Nat := 39
abbrev m_Sight_likeliestWith : Nat := 40
abbrev m_Table_init : Nat := 41
abbrev m_Table_become : Nat := 42
abbrev m_Table_setCups : Nat := 43
abbrev m_Table_add : Nat := 44
abbrev m_Table_peaBehind : Nat := 45
abbrev m_Table_feintSets : Nat := 46
abbrev m_Table_peaWithFeints : Nat := 47
abbrev m_Table_playRound : Nat := 48
abbrev m_Table_whoLeft : Nat := 49
abbrev m_Table_draw : Nat := 50
abbrev m_Table_sumOfPlayers : Nat := 51
abbrev m_Table_sumOfSlips : Nat := 52
abbrev m_Table_fullSpots : Nat := 53
abbrev m_Tape_init : Nat := 54
abbrev m_Tape_put : Nat := 55
abbrev m_Tape_readOnto : Nat := 56
abbrev m_Tape_readItem : Nat := 57
abbrev m_Tape_kindNamed : Nat := 58
abbrev m_Tape_nameOfKind : Nat := 59
abbrev m_Tape_readPass : Nat := 60
abbrev m_Tape_readPea : Nat := 61
abbrev m_Tape_readEye : Nat := 62
abbrev m_Tape_readPlayer : Nat := 63
abbrev m_Tape_nameOfOwn : Nat := 64
abbrev m_Tape_takeNumber : Nat := 65
abbrev m_Tape_isWord : Nat := 66
abbrev m_Tape_step : Nat := 67
abbrev m_Tape_sortAt : Nat := 68
abbrev m_X_init : Nat := 69
abbrev m_X_cups : Nat := 70
abbrev m_X_pea : Nat := 71
abbrev m_X_pass : Nat := 72
abbrev m_X_of : Nat := 73
abbrev m_X_change : Nat := 74
abbrev m_X_back : Nat := 75
abbrev m_X_where : Nat := 76
abbrev m_X_goes : Nat := 77
abbrev m_X_moves : Nat := 78
abbrev m_X_eye : Nat := 79
abbrev m_X_weight : Nat := 80
abbrev m_X_guess : Nat := 81
abbrev m_X_right : Nat := 82
abbrev m_X_lost : Nat := 83
abbrev m_X_both : Nat := 84
abbrev m_X_may : Nat := 85
abbrev m_X_watch : Nat := 86
abbrev m_X_feint : Nat := 87
abbrev m_X_kindFor : Nat := 88
abbrev m_X_misled : Nat := 89
abbrev m_X_row : Nat := 90
abbrev m_X_feints : Nat := 91
abbrev m_X_surely : Nat := 92
abbrev m_X_rings : Nat := 93
abbrev m_X_orders : Nat := 94
abbrev m_X_player : Nat := 95
abbrev m_X_told : Nat := 96
abbrev m_X_round : Nat := 97
abbrev m_X_play : Nat := 98
abbrev m_X_best : Nat := 99
abbrev m_X_should : Nat := 100
abbrev m_X_richest : Nat := 101
abbrev m_X_now : Nat := 102
abbrev m_X_shuffle : Nat := 103
abbrev m_X_seed : Nat := 104
abbrev m_X_feed : Nat := 105
abbrev m_X_wipe : Nat := 106
abbrev m_X_text : Nat := 107
abbrev m_X_hold : Nat := 108
abbrev m_X_as : Nat := 109
abbrev m_X_sheet : Nat := 110
abbrev m_X_write : Nat := 111
abbrev m_X_copy : Nat := 112
abbrev m_X_load : Nat := 113
abbrev m_X_judge : Nat := 114
abbrev m_X_image : Nat := 115
abbrev m_X_undo : Nat := 116
abbrev m_X_tear : Nat := 117
abbrev m_X_count : Nat := 118
abbrev m_X_status : Nat := 119
abbrev m_X_tell : Nat := 120
abbrev m_X_likeliest : Nat := 121
abbrev m_X_rightOf : Nat := 122
abbrev m_X_rightIf : Nat := 123
abbrev m_X_isPlace : Nat := 124
abbrev m_X_isPlaceOrHand : Nat := 125
abbrev m_X_isPass : Nat := 126
abbrev m_X_isBehind : Nat := 127
abbrev m_X_isKind : Nat := 128
abbrev m_X_isEye : Nat := 129
abbrev m_X_isPlayer : Nat := 130
abbrev m_X_isRounds : Nat := 131
abbrev m_X_isSheet : Nat := 132
abbrev m_X_isBits : Nat := 133
abbrev m_X_within : Nat := 134
abbrev m_X_isUnder : Nat := 135
abbrev m_X_ringAt : Nat := 136
abbrev m_X_swapped : Nat := 137
abbrev m_X_next : Nat := 138
abbrev m_M_init : Nat := 139
abbrev m_M_finds : Nat := 140
abbrev m_M_in : Nat := 141
abbrev m_M_copies : Nat := 142
abbrev m_M_isPlace : Nat := 143
abbrev m_M_isPass : Nat := 144
abbrev m_M_isFour : Nat := 145
abbrev m_M_its : Nat := 146
abbrev m_M_third : Nat := 147
abbrev m_M_swapped : Nat := 148
abbrev m_M_cupBy : Nat := 149
abbrev m_M_peaBy : Nat := 150
abbrev m_M_seen : Nat := 151
abbrev m_M_cups : Nat := 152
abbrev m_M_pea : Nat := 153
abbrev m_M_comes : Nat := 154
abbrev m_M_pass : Nat := 155
abbrev m_M_of : Nat := 156
abbrev m_M_change : Nat := 157
abbrev m_M_back : Nat := 158
abbrev m_M_peaBehind : Nat := 159
abbrev m_M_where : Nat := 160
abbrev m_M_goes : Nat := 161
abbrev m_M_moves : Nat := 162
abbrev m_M_slips : Nat := 163
abbrev m_M_beginsBy : Nat := 164
abbrev m_M_looksAt : Nat := 165
abbrev m_M_watches : Nat := 166
abbrev m_M_heaviest : Nat := 167
abbrev m_M_eye : Nat := 168
abbrev m_M_weight : Nat := 169
abbrev m_M_guessBehind : Nat := 170
abbrev m_M_guess : Nat := 171
abbrev m_M_rightNow : Nat := 172
abbrev m_M_rightOf : Nat := 173
abbrev m_M_right : Nat := 174
abbrev m_M_lost : Nat := 175
abbrev m_M_both : Nat := 176
abbrev m_M_may : Nat := 177
abbrev m_M_watch : Nat := 178
abbrev m_M_rightAs : Nat := 179
abbrev m_M_feint : Nat := 180
abbrev m_M_kindFor : Nat := 181
abbrev m_M_layPairs : Nat := 182
abbrev m_M_pairOf : Nat := 183
abbrev m_M_findMisled : Nat := 184
abbrev m_M_whyMisled : Nat := 185
abbrev m_M_misled : Nat := 186
abbrev m_M_row : Nat := 187
abbrev m_M_findFeints : Nat := 188
abbrev m_M_isWhere : Nat := 189
abbrev m_M_feints : Nat := 190
abbrev m_M_surely : Nat := 191
abbrev m_M_power : Nat := 192
abbrev m_M_rings : Nat := 193
abbrev m_M_orders : Nat := 194
abbrev m_M_whose : Nat := 195
abbrev m_M_sets : Nat := 196
abbrev m_M_hasLeft : Nat := 197
abbrev m_M_player : Nat := 198
abbrev m_M_told : Nat := 199
abbrev m_M_aRound : Nat := 200
abbrev m_M_round : Nat := 201
abbrev m_M_play : Nat := 202
abbrev m_M_tries : Nat := 203
abbrev m_M_bestOf : Nat := 204
abbrev m_M_best : Nat := 205
abbrev m_M_should : Nat := 206
abbrev m_M_richest : Nat := 207
abbrev m_M_now : Nat := 208
abbrev m_M_drawn : Nat := 209
abbrev m_M_shuffle : Nat := 210
abbrev m_M_seed : Nat := 211
abbrev m_M_feed : Nat := 212
abbrev m_M_wipe : Nat := 213
abbrev m_M_letter : Nat := 214
abbrev m_M_isDigit : Nat := 215
abbrev m_M_byteAt : Nat := 216
abbrev m_M_next : Nat := 217
abbrev m_M_wrongHere : Nat := 218
abbrev m_M_isWord : Nat := 219
abbrev m_M_kindHere : Nat := 220
abbrev m_M_numberHere : Nat := 221
abbrev m_M_passHere : Nat := 222
abbrev m_M_peaHere : Nat := 223
abbrev m_M_eyeHere : Nat := 224
abbrev m_M_playerHere : Nat := 225
abbrev m_M_item : Nat := 226
abbrev m_M_items : Nat := 227
abbrev m_M_text : Nat := 228
abbrev m_M_hold : Nat := 229
abbrev m_M_above : Nat := 230
abbrev m_M_as : Nat := 231
abbrev m_M_isSheet : Nat := 232
abbrev m_M_sheet : Nat := 233
abbrev m_M_whyNone : Nat := 234
abbrev m_M_write : Nat := 235
abbrev m_M_copy : Nat := 236
abbrev m_M_load : Nat := 237
abbrev m_M_judge : Nat := 238
abbrev m_M_image : Nat := 239
abbrev m_M_undo : Nat := 240
abbrev m_M_tear : Nat := 241
abbrev m_M_sumOf : Nat := 242
abbrev m_M_holding : Nat := 243
abbrev m_M_count : Nat := 244
abbrev m_M_status : Nat := 245
end
section
/-! THE TABLES ARE THOSE OF THE STATEMENT: each resolved entry beside its word. Written by program (wip/whole/chk.py). -/
/-- the script, the static rows, the texts: how long, what stands in them -/
def zstat (j : Nat) : String × (String × String) := match j with
  | 1 => ("CupsAndPea", "ABOVE", "[I")
  | 2 => ("CupsAndPea", "PLAYER_LEAST", "[I")
  | _ => ("CupsAndPea", "PLAYER_MOST", "[I")
def ztext (j : Nat) : String := match j with
  | 4 => "pass"
  | 5 => "feint"
  | 6 => "lift"
  | 7 => "drop"
  | 8 => "whirl"
  | 9 => "slow"
  | 10 => "quick"
  | 11 => "pea"
  | 12 => "hand"
  | 13 => "eye"
  | 14 => "slip"
  | 15 => "playe\x72"
  | 16 => "purse"
  | 17 => "stake"
  | _ => "bears"
/-- the word that an entry of the pool stands for -/
def zwant (own ix : Nat) (i : Instr) (c : Cond) : Bool := match i with
  | .getfield n => decide (n / 256 < 11) && decide (n / 4 % 64 < znf (n / 256)) && decide (c = .fieldLink (znm own) ix (zfT n).1 (zfT n).2.1 (zfT n).2.2.1) && decide ((zfT n).1 = znm (n / 256)) && (match n % 4 with
    | 0 => decide (zty (n / 256) (n / 4 % 64) = .int)
    | 1 => decide (zty (n / 256) (n / 4 % 64) = .long)
    | 2 => decide (zty (n / 256) (n / 4 % 64) = .boolean)
    | _ => decide (fits (zty (n / 256) (n / 4 % 64)) .null = true))
  | .getstatic j => decide (1 ≤ j ∧ j ≤ 3) && (match c with
    | .fieldLink o x r n d => decide (o = znm own ∧ x = ix ∧ r = (zstat j).1 ∧ n = (zstat j).2.1 ∧ d = (zstat j).2.2)
    | .fieldLinkNest o x r n d _ => decide (o = znm own ∧ x = ix ∧ r = (zstat j).1 ∧ n = (zstat j).2.1 ∧ d = (zstat j).2.2)
    | _ => false)
  | .ldc j => decide (4 ≤ j ∧ j ≤ 18) && decide (c = .stringRef (znm own) ix (ztext j))
  | .iconst n => decide (-2147483648 ≤ n ∧ n < 2147483648) && decide (c = .constant (znm own) ix (Int32.ofInt n))
  | .sipush n => decide (-9223372036854775808 ≤ n ∧ n < 9223372036854775808) && decide (c = .constantLong (znm own) ix (Int64.ofInt n))
  | .new n => decide (n / 256 < 11) && decide (n % 256 = znf (n / 256)) && decide (c = .classLink (znm own) ix (znm (n / 256)))
  | .multianewarray _ _ => decide (c = .classLink (znm own) ix "[[J")
  | .invokevirtual n => (match zM[n / 1024]? with
    | some q => decide (q.2.2.2.2.2.2.1 = 1 ∧ q.1 = n / 16 % 64 ∧ q.2.2.2.2.2.1 = n % 16) && (match c with
      | .methodLink o x y => decide (o = znm own ∧ x = ix ∧ y = q.2.1)
      | .methodLinkNest o x y _ => decide (o = znm own ∧ x = ix ∧ y = q.2.1)
      | _ => false)
    | none => false)
  | .invokestatic n => (match zM[n / 1024]? with
    | some q => decide (¬ q.2.2.2.2.2.2.1 = 1 ∧ q.2.2.2.2.2.1 = n % 16) && (match c with
      | .methodLink o x y => decide (o = znm own ∧ x = ix ∧ y = q.2.1)
      | .methodLinkNest o x y _ => decide (o = znm own ∧ x = ix ∧ y = q.2.1)
      | _ => false)
    | none => false)
  | .fadd => decide (c = .methodLink (znm own) ix Lib.Math.min.name)
  | .fsub => decide (c = .methodLink (znm own) ix Lib.Math.max.name)
  | .swap => decide (c = .methodLink (znm own) ix arraycopyName)
  | .nop => decide (c = .methodLink (znm own) ix objectInit)
  | .dadd => decide (c = .methodLink (znm own) ix ⟨"java/lang/String", "length", "()I"⟩)
  | .dsub => decide (c = .methodLink (znm own) ix ⟨"java/lang/String", "charAt", "(I)C"⟩)
  | _ => false
def zpchk (e : Nat × (Nat × (Instr × Nat))) : Bool := match lw_tbl[e.2.2.2]? with
  | some c => zwant e.1 e.2.1 e.2.2.1 c
  | none => false
theorem zpool_ok_0 : zpool_0.all zpchk = true := by decide +kernel
theorem zpool_ok_1 : zpool_1.all zpchk = true := by decide +kernel
theorem zpool_ok_2 : zpool_2.all zpchk = true := by decide +kernel
theorem zpool_ok_3 : zpool_3.all zpchk = true := by decide +kernel
theorem zpool_ok_4 : zpool_4.all zpchk = true := by decide +kernel
theorem zpool_ok_5 : zpool_5.all zpchk = true := by decide +kernel
theorem zpool_ok_6 : zpool_6.all zpchk = true := by decide +kernel
theorem zpool_ok_7 : zpool_7.all zpchk = true := by decide +kernel
theorem zpool_ok_8 : zpool_8.all zpchk = true := by decide +kernel
theorem zpool_ok : zpool.all zpchk = true := by
  unfold zpool
  simp only [List.all_append, zpool_ok_0, zpool_ok_1, zpool_ok_2, zpool_ok_3, zpool_ok_4, zpool_ok_5, zpool_ok_6, zpool_ok_7, zpool_ok_8, Bool.and_self]
/-- the words of a method -/
def zmchk (q : zMt) : Bool := decide (q.1 < 11) && decide (znm q.1 = q.2.1.cls) && decide (lw_tbl[q.2.2.2.2.2.2.2.1]? = some (.code q.2.1 q.2.2.1 q.2.2.2.1 q.2.2.2.2.1)) && decide (lw_tbl[q.2.2.2.2.2.2.2.2.2.2]? = some (.initialized q.2.1.cls)) && decide (q.2.2.2.1 ≤ 13) && (match q.2.2.2.2.2.2.1 with
  | 0 => decide (lw_tbl[q.2.2.2.2.2.2.2.2.1]? = some (.static q.2.1)) && decide ((parseMethodDescriptor q.2.1.desc).map (fun d => d.parameters.length) = some q.2.2.2.2.2.1)
  | 1 => decide (lw_tbl[q.2.2.2.2.2.2.2.2.1]? = some (.instanceMethod q.2.1)) && decide (lw_tbl[q.2.2.2.2.2.2.2.2.2.1]? = some (.selects q.2.1.cls q.2.1 q.2.1)) && decide ((parseMethodDescriptor q.2.1.desc).map (fun d => d.parameters.length + 1) = some q.2.2.2.2.2.1)
  | _ => decide (q.2.1.name = "<init>" ∧ q.2.2.2.2.1 = none) && decide (lw_tbl[q.2.2.2.2.2.2.2.2.1]? = some (.instanceMethod q.2.1)) && decide ((parseMethodDescriptor q.2.1.desc).map (fun d => d.parameters.length + 1) = some q.2.2.2.2.2.1)) && decide (plainName q.2.1.cls = true)
theorem zM_ok_0 : zM_0.all zmchk = true := by decide +kernel
theorem zM_ok_1 : zM_1.all zmchk = true := by decide +kernel
theorem zM_ok_2 : zM_2.all zmchk = true := by decide +kernel
theorem zM_ok_3 : zM_3.all zmchk = true := by decide +kernel
theorem zM_ok_4 : zM_4.all zmchk = true := by decide +kernel
theorem zM_ok_5 : zM_5.all zmchk = true := by decide +kernel
theorem zM_ok_6 : zM_6.all zmchk = true := by decide +kernel
theorem zM_ok_7 : zM_7.all zmchk = true := by decide +kernel
theorem zM_ok_8 : zM_8.all zmchk = true := by decide +kernel
theorem zM_ok_9 : zM_9.all zmchk = true := by decide +kernel
theorem zM_ok : zM.all zmchk = true := by
  unfold zM
  simp only [List.all_append, zM_ok_0, zM_ok_1, zM_ok_2, zM_ok_3, zM_ok_4, zM_ok_5, zM_ok_6, zM_ok_7, zM_ok_8, zM_ok_9, Bool.and_self]
theorem zws_0 : ∀ w ∈ u_ws zR0 zT0 2, w ∈ lw_tbl := by decide +kernel
theorem zty_0 : ∀ k, k < 2 → parseFieldDescriptor (zT0 k).2.2.1 = some (zty 0 k) := by decide +kernel
theorem znd_0 : ∀ a, a < 2 → ∀ b, b < 2 → a ≠ b → (zT0 a).2.1 ≠ (zT0 b).2.1 := by decide +kernel
theorem zws_1 : ∀ w ∈ u_ws zR1 zT1 1, w ∈ lw_tbl := by decide +kernel
theorem zty_1 : ∀ k, k < 1 → parseFieldDescriptor (zT1 k).2.2.1 = some (zty 1 k) := by decide +kernel
theorem znd_1 : ∀ a, a < 1 → ∀ b, b < 1 → a ≠ b → (zT1 a).2.1 ≠ (zT1 b).2.1 := by decide +kernel
theorem zws_2 : ∀ w ∈ u_ws zR2 zT2 3, w ∈ lw_tbl := by decide +kernel
theorem zty_2 : ∀ k, k < 3 → parseFieldDescriptor (zT2 k).2.2.1 = some (zty 2 k) := by decide +kernel
theorem znd_2 : ∀ a, a < 3 → ∀ b, b < 3 → a ≠ b → (zT2 a).2.1 ≠ (zT2 b).2.1 := by decide +kernel
theorem zws_3 : ∀ w ∈ u_ws zR3 zT3 4, w ∈ lw_tbl := by decide +kernel
theorem zty_3 : ∀ k, k < 4 → parseFieldDescriptor (zT3 k).2.2.1 = some (zty 3 k) := by decide +kernel
theorem znd_3 : ∀ a, a < 4 → ∀ b, b < 4 → a ≠ b → (zT3 a).2.1 ≠ (zT3 b).2.1 := by decide +kernel
theorem zws_4 : ∀ w ∈ u_ws zR4 zT4 7, w ∈ lw_tbl := by decide +kernel
theorem zty_4 : ∀ k, k < 7 → parseFieldDescriptor (zT4 k).2.2.1 = some (zty 4 k) := by decide +kernel
theorem znd_4 : ∀ a, a < 7 → ∀ b, b < 7 → a ≠ b → (zT4 a).2.1 ≠ (zT4 b).2.1 := by decide +kernel
theorem zws_5 : ∀ w ∈ u_ws zR5 zT5 3, w ∈ lw_tbl := by decide +kernel
theorem zty_5 : ∀ k, k < 3 → parseFieldDescriptor (zT5 k).2.2.1 = some (zty 5 k) := by decide +kernel
theorem znd_5 : ∀ a, a < 3 → ∀ b, b < 3 → a ≠ b → (zT5 a).2.1 ≠ (zT5 b).2.1 := by decide +kernel
theorem zws_6 : ∀ w ∈ u_ws zR6 zT6 1, w ∈ lw_tbl := by decide +kernel
theorem zty_6 : ∀ k, k < 1 → parseFieldDescriptor (zT6 k).2.2.1 = some (zty 6 k) := by decide +kernel
theorem znd_6 : ∀ a, a < 1 → ∀ b, b < 1 → a ≠ b → (zT6 a).2.1 ≠ (zT6 b).2.1 := by decide +kernel
theorem zws_7 : ∀ w ∈ u_ws zR7 zT7 9, w ∈ lw_tbl := by decide +kernel
theorem zty_7 : ∀ k, k < 9 → parseFieldDescriptor (zT7 k).2.2.1 = some (zty 7 k) := by decide +kernel
theorem znd_7 : ∀ a, a < 9 → ∀ b, b < 9 → a ≠ b → (zT7 a).2.1 ≠ (zT7 b).2.1 := by decide +kernel
theorem zws_8 : ∀ w ∈ u_ws zR8 zT8 6, w ∈ lw_tbl := by decide +kernel
theorem zty_8 : ∀ k, k < 6 → parseFieldDescriptor (zT8 k).2.2.1 = some (zty 8 k) := by decide +kernel
theorem znd_8 : ∀ a, a < 6 → ∀ b, b < 6 → a ≠ b → (zT8 a).2.1 ≠ (zT8 b).2.1 := by decide +kernel
theorem zws_9 : ∀ w ∈ u_ws zR9 zT9 11, w ∈ lw_tbl := by decide +kernel
theorem zty_9 : ∀ k, k < 11 → parseFieldDescriptor (zT9 k).2.2.1 = some (zty 9 k) := by decide +kernel
theorem znd_9 : ∀ a, a < 11 → ∀ b, b < 11 → a ≠ b → (zT9 a).2.1 ≠ (zT9 b).2.1 := by decide +kernel
theorem zws_10 : ∀ w ∈ u_ws zR10 zT10 31, w ∈ lw_tbl := by decide +kernel
theorem zty_10 : ∀ k, k < 31 → parseFieldDescriptor (zT10 k).2.2.1 = some (zty 10 k) := by decide +kernel
theorem znd_10 : ∀ a, a < 31 → ∀ b, b < 31 → a ≠ b → (zT10 a).2.1 ≠ (zT10 b).2.1 := by decide +kernel
/-- what is said of class c -/
def zclass (c : Nat) : Prop := zcl[c]? = some (znm c, zTT c, znf c) ∧ (∀ w ∈ u_ws (znm c) (zTT c) (znf c), w ∈ lw_tbl) ∧ (∀ k, k < znf c → parseFieldDescriptor (zTT c k).2.2.1 = some (zty c k)) ∧ (∀ a, a < znf c → ∀ b, b < znf c → a ≠ b → (zTT c a).2.1 ≠ (zTT c b).2.1) ∧ Cond.instantiable (znm c) (znf c) ∈ lw_tbl ∧ Cond.initialized (znm c) ∈ lw_tbl
theorem zclass_0 : zclass 0 := ⟨rfl, zws_0, zty_0, znd_0, List.mem_of_getElem? (i := 125) (by decide +kernel), List.mem_of_getElem? (i := 68) (by decide +kernel)⟩
theorem zclass_1 : zclass 1 := ⟨rfl, zws_1, zty_1, znd_1, List.mem_of_getElem? (i := 266) (by decide +kernel), List.mem_of_getElem? (i := 72) (by decide +kernel)⟩
theorem zclass_2 : zclass 2 := ⟨rfl, zws_2, zty_2, znd_2, List.mem_of_getElem? (i := 102) (by decide +kernel), List.mem_of_getElem? (i := 67) (by decide +kernel)⟩
theorem zclass_3 : zclass 3 := ⟨rfl, zws_3, zty_3, znd_3, List.mem_of_getElem? (i := 145) (by decide +kernel), List.mem_of_getElem? (i := 69) (by decide +kernel)⟩
theorem zclass_4 : zclass 4 := ⟨rfl, zws_4, zty_4, znd_4, List.mem_of_getElem? (i := 234) (by decide +kernel), List.mem_of_getElem? (i := 71) (by decide +kernel)⟩
theorem zclass_5 : zclass 5 := ⟨rfl, zws_5, zty_5, znd_5, List.mem_of_getElem? (i := 304) (by decide +kernel), List.mem_of_getElem? (i := 74) (by decide +kernel)⟩
theorem zclass_6 : zclass 6 := ⟨rfl, zws_6, zty_6, znd_6, List.mem_of_getElem? (i := 221) (by decide +kernel), List.mem_of_getElem? (i := 70) (by decide +kernel)⟩
theorem zclass_7 : zclass 7 := ⟨rfl, zws_7, zty_7, znd_7, List.mem_of_getElem? (i := 91) (by decide +kernel), List.mem_of_getElem? (i := 66) (by decide +kernel)⟩
theorem zclass_8 : zclass 8 := ⟨rfl, zws_8, zty_8, znd_8, List.mem_of_getElem? (i := 276) (by decide +kernel), List.mem_of_getElem? (i := 73) (by decide +kernel)⟩
theorem zclass_9 : zclass 9 := ⟨rfl, zws_9, zty_9, znd_9, List.mem_of_getElem? (i := 83) (by decide +kernel), List.mem_of_getElem? (i := 65) (by decide +kernel)⟩
theorem zclass_10 : zclass 10 := ⟨rfl, zws_10, zty_10, znd_10, List.mem_of_getElem? (i := 968) (by decide +kernel), List.mem_of_getElem? (i := 75) (by decide +kernel)⟩
theorem zclass_ok : ∀ c, c < 11 → zclass c
  | 0, _ => zclass_0
  | 1, _ => zclass_1
  | 2, _ => zclass_2
  | 3, _ => zclass_3
  | 4, _ => zclass_4
  | 5, _ => zclass_5
  | 6, _ => zclass_6
  | 7, _ => zclass_7
  | 8, _ => zclass_8
  | 9, _ => zclass_9
  | 10, _ => zclass_10
  | n + 11, h => absurd h (by omega)
end
