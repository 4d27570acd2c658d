section
-- ===== PART A: goes FIRST, ahead of the names: the tables' words, and 'selects' of the private methods out of them =====
/-- a private method of a class that the tables say can be made, by its rows of tables_1 -/
def lw_okq (q : MethodName × Nat) : Prop := (q.1.cls ≠ "java/lang/invoke/MethodHandle" ∧ q.1.cls ≠ "java/lang/invoke/VarHandle") ∧ Cond.instantiable q.1.cls q.2 ∈ tables_1 ∧ Cond.privateMethod q.1 ∈ tables_1 ∧ Cond.instanceMethod q.1 ∈ tables_1
theorem lw_p0 : lw_okq (⟨"PostalLines", "freshText", "()LPostalLines$Words;"⟩, 11) := ⟨⟨by decide +kernel, by decide +kernel⟩, List.mem_of_getElem? (i := 17) (by decide +kernel), List.mem_of_getElem? (i := 424) (by decide +kernel), List.mem_of_getElem? (i := 425) (by decide +kernel)⟩
theorem lw_p1 : lw_okq (⟨"PostalLines$Words", "takeFolded", "(ILPostalLines$Folds;)V"⟩, 9) := ⟨⟨by decide +kernel, by decide +kernel⟩, List.mem_of_getElem? (i := 61) (by decide +kernel), List.mem_of_getElem? (i := 447) (by decide +kernel), List.mem_of_getElem? (i := 448) (by decide +kernel)⟩
theorem lw_p2 : lw_okq (⟨"PostalLines$Words", "take", "(I)V"⟩, 9) := ⟨⟨by decide +kernel, by decide +kernel⟩, List.mem_of_getElem? (i := 61) (by decide +kernel), List.mem_of_getElem? (i := 455) (by decide +kernel), List.mem_of_getElem? (i := 456) (by decide +kernel)⟩
theorem lw_p3 : lw_okq (⟨"PostalLines$Words", "begin", "()V"⟩, 9) := ⟨⟨by decide +kernel, by decide +kernel⟩, List.mem_of_getElem? (i := 61) (by decide +kernel), List.mem_of_getElem? (i := 468) (by decide +kernel), List.mem_of_getElem? (i := 469) (by decide +kernel)⟩
theorem lw_p4 : lw_okq (⟨"PostalLines$Words", "append", "(I)V"⟩, 9) := ⟨⟨by decide +kernel, by decide +kernel⟩, List.mem_of_getElem? (i := 61) (by decide +kernel), List.mem_of_getElem? (i := 473) (by decide +kernel), List.mem_of_getElem? (i := 474) (by decide +kernel)⟩
theorem lw_p5 : lw_okq (⟨"PostalLines$Book", "isLike", "(LPostalLines$Words;II)Z"⟩, 10) := ⟨⟨by decide +kernel, by decide +kernel⟩, List.mem_of_getElem? (i := 99) (by decide +kernel), List.mem_of_getElem? (i := 520) (by decide +kernel), List.mem_of_getElem? (i := 521) (by decide +kernel)⟩
theorem lw_p6 : lw_okq (⟨"PostalLines$Book", "isFound", "(II)Z"⟩, 10) := ⟨⟨by decide +kernel, by decide +kernel⟩, List.mem_of_getElem? (i := 99) (by decide +kernel), List.mem_of_getElem? (i := 536) (by decide +kernel), List.mem_of_getElem? (i := 537) (by decide +kernel)⟩
theorem lw_p7 : lw_okq (⟨"PostalLines$Book", "addWord", "(LPostalLines$Words;I)I"⟩, 10) := ⟨⟨by decide +kernel, by decide +kernel⟩, List.mem_of_getElem? (i := 99) (by decide +kernel), List.mem_of_getElem? (i := 548) (by decide +kernel), List.mem_of_getElem? (i := 549) (by decide +kernel)⟩
theorem lw_p8 : lw_okq (⟨"PostalLines$Fitting", "hasOneSlip", "(II)Z"⟩, 5) := ⟨⟨by decide +kernel, by decide +kernel⟩, List.mem_of_getElem? (i := 239) (by decide +kernel), List.mem_of_getElem? (i := 671) (by decide +kernel), List.mem_of_getElem? (i := 672) (by decide +kernel)⟩
theorem lw_p9 : lw_okq (⟨"PostalLines$Fitting", "step", "(IIII)V"⟩, 5) := ⟨⟨by decide +kernel, by decide +kernel⟩, List.mem_of_getElem? (i := 239) (by decide +kernel), List.mem_of_getElem? (i := 713) (by decide +kernel), List.mem_of_getElem? (i := 714) (by decide +kernel)⟩
theorem lw_p10 : lw_okq (⟨"PostalLines$Fitting", "lower", "(III)V"⟩, 5) := ⟨⟨by decide +kernel, by decide +kernel⟩, List.mem_of_getElem? (i := 239) (by decide +kernel), List.mem_of_getElem? (i := 718) (by decide +kernel), List.mem_of_getElem? (i := 719) (by decide +kernel)⟩
theorem lw_p11 : lw_okq (⟨"PostalLines$Rows", "lower", "(IIILPostalLines$Fitting;)V"⟩, 2) := ⟨⟨by decide +kernel, by decide +kernel⟩, List.mem_of_getElem? (i := 267) (by decide +kernel), List.mem_of_getElem? (i := 726) (by decide +kernel), List.mem_of_getElem? (i := 727) (by decide +kernel)⟩
theorem lw_p12 : lw_okq (⟨"PostalLines$Reader", "leastWay", "(III)J"⟩, 12) := ⟨⟨by decide +kernel, by decide +kernel⟩, List.mem_of_getElem? (i := 261) (by decide +kernel), List.mem_of_getElem? (i := 748) (by decide +kernel), List.mem_of_getElem? (i := 749) (by decide +kernel)⟩
theorem lw_p13 : lw_okq (⟨"PostalLines$Reader", "wayAt", "(II)J"⟩, 12) := ⟨⟨by decide +kernel, by decide +kernel⟩, List.mem_of_getElem? (i := 261) (by decide +kernel), List.mem_of_getElem? (i := 753) (by decide +kernel), List.mem_of_getElem? (i := 754) (by decide +kernel)⟩
theorem lw_p14 : lw_okq (⟨"PostalLines$Reader", "marks", "(III)J"⟩, 12) := ⟨⟨by decide +kernel, by decide +kernel⟩, List.mem_of_getElem? (i := 261) (by decide +kernel), List.mem_of_getElem? (i := 757) (by decide +kernel), List.mem_of_getElem? (i := 758) (by decide +kernel)⟩
theorem lw_p15 : lw_okq (⟨"PostalLines$Reader", "rowCost", "(III)I"⟩, 12) := ⟨⟨by decide +kernel, by decide +kernel⟩, List.mem_of_getElem? (i := 261) (by decide +kernel), List.mem_of_getElem? (i := 775) (by decide +kernel), List.mem_of_getElem? (i := 776) (by decide +kernel)⟩
def lw_privs_1 : List (MethodName × Nat) := [(⟨"PostalLines", "freshText", "()LPostalLines$Words;"⟩, 11), (⟨"PostalLines$Words", "takeFolded", "(ILPostalLines$Folds;)V"⟩, 9), (⟨"PostalLines$Words", "take", "(I)V"⟩, 9), (⟨"PostalLines$Words", "begin", "()V"⟩, 9), (⟨"PostalLines$Words", "append", "(I)V"⟩, 9), (⟨"PostalLines$Book", "isLike", "(LPostalLines$Words;II)Z"⟩, 10), (⟨"PostalLines$Book", "isFound", "(II)Z"⟩, 10), (⟨"PostalLines$Book", "addWord", "(LPostalLines$Words;I)I"⟩, 10), (⟨"PostalLines$Fitting", "hasOneSlip", "(II)Z"⟩, 5), (⟨"PostalLines$Fitting", "step", "(IIII)V"⟩, 5), (⟨"PostalLines$Fitting", "lower", "(III)V"⟩, 5), (⟨"PostalLines$Rows", "lower", "(IIILPostalLines$Fitting;)V"⟩, 2), (⟨"PostalLines$Reader", "leastWay", "(III)J"⟩, 12), (⟨"PostalLines$Reader", "wayAt", "(II)J"⟩, 12), (⟨"PostalLines$Reader", "marks", "(III)J"⟩, 12), (⟨"PostalLines$Reader", "rowCost", "(III)I"⟩, 12)]
theorem lw_r1 : ∀ q ∈ lw_privs_1, lw_okq q := List.forall_mem_cons.mpr ⟨lw_p0, List.forall_mem_cons.mpr ⟨lw_p1, List.forall_mem_cons.mpr ⟨lw_p2, List.forall_mem_cons.mpr ⟨lw_p3, List.forall_mem_cons.mpr ⟨lw_p4, List.forall_mem_cons.mpr ⟨lw_p5, List.forall_mem_cons.mpr ⟨lw_p6, List.forall_mem_cons.mpr ⟨lw_p7, List.forall_mem_cons.mpr ⟨lw_p8, List.forall_mem_cons.mpr ⟨lw_p9, List.forall_mem_cons.mpr ⟨lw_p10, List.forall_mem_cons.mpr ⟨lw_p11, List.forall_mem_cons.mpr ⟨lw_p12, List.forall_mem_cons.mpr ⟨lw_p13, List.forall_mem_cons.mpr ⟨lw_p14, List.forall_mem_cons.mpr ⟨lw_p15, fun _ h => absurd h List.not_mem_nil⟩⟩⟩⟩⟩⟩⟩⟩⟩⟩⟩⟩⟩⟩⟩⟩
theorem lw_p16 : lw_okq (⟨"PostalLines$Reader", "isUnit", "(I)Z"⟩, 12) := ⟨⟨by decide +kernel, by decide +kernel⟩, List.mem_of_getElem? (i := 261) (by decide +kernel), List.mem_of_getElem? (i := 787) (by decide +kernel), List.mem_of_getElem? (i := 788) (by decide +kernel)⟩
theorem lw_p17 : lw_okq (⟨"PostalLines$Reader", "breakCost", "(II)I"⟩, 12) := ⟨⟨by decide +kernel, by decide +kernel⟩, List.mem_of_getElem? (i := 261) (by decide +kernel), List.mem_of_getElem? (i := 797) (by decide +kernel), List.mem_of_getElem? (i := 798) (by decide +kernel)⟩
theorem lw_p18 : lw_okq (⟨"PostalLines$Reader", "putWay", "(IIJ)V"⟩, 12) := ⟨⟨by decide +kernel, by decide +kernel⟩, List.mem_of_getElem? (i := 261) (by decide +kernel), List.mem_of_getElem? (i := 802) (by decide +kernel), List.mem_of_getElem? (i := 803) (by decide +kernel)⟩
theorem lw_p19 : lw_okq (⟨"PostalLines$Reader", "describePart", "(III)V"⟩, 12) := ⟨⟨by decide +kernel, by decide +kernel⟩, List.mem_of_getElem? (i := 261) (by decide +kernel), List.mem_of_getElem? (i := 819) (by decide +kernel), List.mem_of_getElem? (i := 820) (by decide +kernel)⟩
theorem lw_p20 : lw_okq (⟨"PostalLines$Reader", "describeUnit", "(I)V"⟩, 12) := ⟨⟨by decide +kernel, by decide +kernel⟩, List.mem_of_getElem? (i := 261) (by decide +kernel), List.mem_of_getElem? (i := 840) (by decide +kernel), List.mem_of_getElem? (i := 841) (by decide +kernel)⟩
theorem lw_p21 : lw_okq (⟨"PostalLines$Deliveries", "isDrafted", "(I)Z"⟩, 3) := ⟨⟨by decide +kernel, by decide +kernel⟩, List.mem_of_getElem? (i := 222) (by decide +kernel), List.mem_of_getElem? (i := 849) (by decide +kernel), List.mem_of_getElem? (i := 850) (by decide +kernel)⟩
theorem lw_p22 : lw_okq (⟨"PostalLines", "leastOfNames", "(II)I"⟩, 11) := ⟨⟨by decide +kernel, by decide +kernel⟩, List.mem_of_getElem? (i := 17) (by decide +kernel), List.mem_of_getElem? (i := 883) (by decide +kernel), List.mem_of_getElem? (i := 884) (by decide +kernel)⟩
theorem lw_p23 : lw_okq (⟨"PostalLines$Places", "hasNumber", "(II)Z"⟩, 17) := ⟨⟨by decide +kernel, by decide +kernel⟩, List.mem_of_getElem? (i := 140) (by decide +kernel), List.mem_of_getElem? (i := 919) (by decide +kernel), List.mem_of_getElem? (i := 920) (by decide +kernel)⟩
theorem lw_p24 : lw_okq (⟨"PostalLines$Places", "hasCode", "(II)Z"⟩, 17) := ⟨⟨by decide +kernel, by decide +kernel⟩, List.mem_of_getElem? (i := 140) (by decide +kernel), List.mem_of_getElem? (i := 923) (by decide +kernel), List.mem_of_getElem? (i := 924) (by decide +kernel)⟩
theorem lw_p25 : lw_okq (⟨"PostalLines$Scribe", "writeUnit", "(I)V"⟩, 5) := ⟨⟨by decide +kernel, by decide +kernel⟩, List.mem_of_getElem? (i := 318) (by decide +kernel), List.mem_of_getElem? (i := 936) (by decide +kernel), List.mem_of_getElem? (i := 937) (by decide +kernel)⟩
theorem lw_p26 : lw_okq (⟨"PostalLines$Scribe", "writePart", "(II)V"⟩, 5) := ⟨⟨by decide +kernel, by decide +kernel⟩, List.mem_of_getElem? (i := 318) (by decide +kernel), List.mem_of_getElem? (i := 941) (by decide +kernel), List.mem_of_getElem? (i := 942) (by decide +kernel)⟩
theorem lw_p27 : lw_okq (⟨"PostalLines$Scribe", "writeFigures", "(II)V"⟩, 5) := ⟨⟨by decide +kernel, by decide +kernel⟩, List.mem_of_getElem? (i := 318) (by decide +kernel), List.mem_of_getElem? (i := 945) (by decide +kernel), List.mem_of_getElem? (i := 946) (by decide +kernel)⟩
theorem lw_p28 : lw_okq (⟨"PostalLines$Scribe", "writeLetter", "(I)V"⟩, 5) := ⟨⟨by decide +kernel, by decide +kernel⟩, List.mem_of_getElem? (i := 318) (by decide +kernel), List.mem_of_getElem? (i := 949) (by decide +kernel), List.mem_of_getElem? (i := 950) (by decide +kernel)⟩
theorem lw_p29 : lw_okq (⟨"PostalLines$Scribe", "writeName", "(IZ)V"⟩, 5) := ⟨⟨by decide +kernel, by decide +kernel⟩, List.mem_of_getElem? (i := 318) (by decide +kernel), List.mem_of_getElem? (i := 954) (by decide +kernel), List.mem_of_getElem? (i := 955) (by decide +kernel)⟩
theorem lw_p30 : lw_okq (⟨"PostalLines$Scribe", "writeSign", "(I)V"⟩, 5) := ⟨⟨by decide +kernel, by decide +kernel⟩, List.mem_of_getElem? (i := 318) (by decide +kernel), List.mem_of_getElem? (i := 963) (by decide +kernel), List.mem_of_getElem? (i := 964) (by decide +kernel)⟩
theorem lw_p31 : lw_okq (⟨"PostalLines$Scribe", "writeUnitSigns", "(I)V"⟩, 5) := ⟨⟨by decide +kernel, by decide +kernel⟩, List.mem_of_getElem? (i := 318) (by decide +kernel), List.mem_of_getElem? (i := 970) (by decide +kernel), List.mem_of_getElem? (i := 971) (by decide +kernel)⟩
def lw_privs_2 : List (MethodName × Nat) := [(⟨"PostalLines$Reader", "isUnit", "(I)Z"⟩, 12), (⟨"PostalLines$Reader", "breakCost", "(II)I"⟩, 12), (⟨"PostalLines$Reader", "putWay", "(IIJ)V"⟩, 12), (⟨"PostalLines$Reader", "describePart", "(III)V"⟩, 12), (⟨"PostalLines$Reader", "describeUnit", "(I)V"⟩, 12), (⟨"PostalLines$Deliveries", "isDrafted", "(I)Z"⟩, 3), (⟨"PostalLines", "leastOfNames", "(II)I"⟩, 11), (⟨"PostalLines$Places", "hasNumber", "(II)Z"⟩, 17), (⟨"PostalLines$Places", "hasCode", "(II)Z"⟩, 17), (⟨"PostalLines$Scribe", "writeUnit", "(I)V"⟩, 5), (⟨"PostalLines$Scribe", "writePart", "(II)V"⟩, 5), (⟨"PostalLines$Scribe", "writeFigures", "(II)V"⟩, 5), (⟨"PostalLines$Scribe", "writeLetter", "(I)V"⟩, 5), (⟨"PostalLines$Scribe", "writeName", "(IZ)V"⟩, 5), (⟨"PostalLines$Scribe", "writeSign", "(I)V"⟩, 5), (⟨"PostalLines$Scribe", "writeUnitSigns", "(I)V"⟩, 5)]
theorem lw_r2 : ∀ q ∈ lw_privs_2, lw_okq q := List.forall_mem_cons.mpr ⟨lw_p16, List.forall_mem_cons.mpr ⟨lw_p17, List.forall_mem_cons.mpr ⟨lw_p18, List.forall_mem_cons.mpr ⟨lw_p19, List.forall_mem_cons.mpr ⟨lw_p20, List.forall_mem_cons.mpr ⟨lw_p21, List.forall_mem_cons.mpr ⟨lw_p22, List.forall_mem_cons.mpr ⟨lw_p23, List.forall_mem_cons.mpr ⟨lw_p24, List.forall_mem_cons.mpr ⟨lw_p25, List.forall_mem_cons.mpr ⟨lw_p26, List.forall_mem_cons.mpr ⟨lw_p27, List.forall_mem_cons.mpr ⟨lw_p28, List.forall_mem_cons.mpr ⟨lw_p29, List.forall_mem_cons.mpr ⟨lw_p30, List.forall_mem_cons.mpr ⟨lw_p31, fun _ h => absurd h List.not_mem_nil⟩⟩⟩⟩⟩⟩⟩⟩⟩⟩⟩⟩⟩⟩⟩⟩
theorem lw_p32 : lw_okq (⟨"PostalLinesModel", "foldOf", "(I)I"⟩, 64) := ⟨⟨by decide +kernel, by decide +kernel⟩, List.mem_of_getElem? (i := 989) (by decide +kernel), List.mem_of_getElem? (i := 1211) (by decide +kernel), List.mem_of_getElem? (i := 1212) (by decide +kernel)⟩
theorem lw_p33 : lw_okq (⟨"PostalLinesModel", "taken", "()I"⟩, 64) := ⟨⟨by decide +kernel, by decide +kernel⟩, List.mem_of_getElem? (i := 989) (by decide +kernel), List.mem_of_getElem? (i := 1219) (by decide +kernel), List.mem_of_getElem? (i := 1220) (by decide +kernel)⟩
theorem lw_p34 : lw_okq (⟨"PostalLinesModel", "isBroken", "()Z"⟩, 64) := ⟨⟨by decide +kernel, by decide +kernel⟩, List.mem_of_getElem? (i := 989) (by decide +kernel), List.mem_of_getElem? (i := 1223) (by decide +kernel), List.mem_of_getElem? (i := 1224) (by decide +kernel)⟩
theorem lw_p35 : lw_okq (⟨"PostalLinesModel", "isPair", "(I)Z"⟩, 64) := ⟨⟨by decide +kernel, by decide +kernel⟩, List.mem_of_getElem? (i := 989) (by decide +kernel), List.mem_of_getElem? (i := 1227) (by decide +kernel), List.mem_of_getElem? (i := 1228) (by decide +kernel)⟩
theorem lw_p36 : lw_okq (⟨"PostalLinesModel", "takeFolded", "(I)V"⟩, 64) := ⟨⟨by decide +kernel, by decide +kernel⟩, List.mem_of_getElem? (i := 989) (by decide +kernel), List.mem_of_getElem? (i := 1234) (by decide +kernel), List.mem_of_getElem? (i := 1235) (by decide +kernel)⟩
theorem lw_p37 : lw_okq (⟨"PostalLinesModel", "take", "(I)V"⟩, 64) := ⟨⟨by decide +kernel, by decide +kernel⟩, List.mem_of_getElem? (i := 989) (by decide +kernel), List.mem_of_getElem? (i := 1238) (by decide +kernel), List.mem_of_getElem? (i := 1239) (by decide +kernel)⟩
theorem lw_p38 : lw_okq (⟨"PostalLinesModel", "isWordOf", "(III)Z"⟩, 64) := ⟨⟨by decide +kernel, by decide +kernel⟩, List.mem_of_getElem? (i := 989) (by decide +kernel), List.mem_of_getElem? (i := 1250) (by decide +kernel), List.mem_of_getElem? (i := 1251) (by decide +kernel)⟩
theorem lw_p39 : lw_okq (⟨"PostalLinesModel", "isName", "(I)Z"⟩, 64) := ⟨⟨by decide +kernel, by decide +kernel⟩, List.mem_of_getElem? (i := 989) (by decide +kernel), List.mem_of_getElem? (i := 1258) (by decide +kernel), List.mem_of_getElem? (i := 1259) (by decide +kernel)⟩
theorem lw_p40 : lw_okq (⟨"PostalLinesModel", "fitCost", "(IIII)I"⟩, 64) := ⟨⟨by decide +kernel, by decide +kernel⟩, List.mem_of_getElem? (i := 989) (by decide +kernel), List.mem_of_getElem? (i := 1294) (by decide +kernel), List.mem_of_getElem? (i := 1295) (by decide +kernel)⟩
theorem lw_p41 : lw_okq (⟨"PostalLinesModel", "nameCost", "(III)I"⟩, 64) := ⟨⟨by decide +kernel, by decide +kernel⟩, List.mem_of_getElem? (i := 989) (by decide +kernel), List.mem_of_getElem? (i := 1298) (by decide +kernel), List.mem_of_getElem? (i := 1299) (by decide +kernel)⟩
theorem lw_p42 : lw_okq (⟨"PostalLinesModel", "stepAt", "(III)V"⟩, 64) := ⟨⟨by decide +kernel, by decide +kernel⟩, List.mem_of_getElem? (i := 989) (by decide +kernel), List.mem_of_getElem? (i := 1303) (by decide +kernel), List.mem_of_getElem? (i := 1304) (by decide +kernel)⟩
theorem lw_p43 : lw_okq (⟨"PostalLinesModel", "isSlip", "(III)Z"⟩, 64) := ⟨⟨by decide +kernel, by decide +kernel⟩, List.mem_of_getElem? (i := 989) (by decide +kernel), List.mem_of_getElem? (i := 1307) (by decide +kernel), List.mem_of_getElem? (i := 1308) (by decide +kernel)⟩
theorem lw_p44 : lw_okq (⟨"PostalLinesModel", "standsFor", "(III)I"⟩, 64) := ⟨⟨by decide +kernel, by decide +kernel⟩, List.mem_of_getElem? (i := 989) (by decide +kernel), List.mem_of_getElem? (i := 1311) (by decide +kernel), List.mem_of_getElem? (i := 1312) (by decide +kernel)⟩
theorem lw_p45 : lw_okq (⟨"PostalLinesModel", "bestAt", "(III)V"⟩, 64) := ⟨⟨by decide +kernel, by decide +kernel⟩, List.mem_of_getElem? (i := 989) (by decide +kernel), List.mem_of_getElem? (i := 1319) (by decide +kernel), List.mem_of_getElem? (i := 1320) (by decide +kernel)⟩
theorem lw_p46 : lw_okq (⟨"PostalLinesModel", "offer", "(IIIIIII)V"⟩, 64) := ⟨⟨by decide +kernel, by decide +kernel⟩, List.mem_of_getElem? (i := 989) (by decide +kernel), List.mem_of_getElem? (i := 1323) (by decide +kernel), List.mem_of_getElem? (i := 1324) (by decide +kernel)⟩
theorem lw_p47 : lw_okq (⟨"PostalLinesModel", "rowCost", "(III)I"⟩, 64) := ⟨⟨by decide +kernel, by decide +kernel⟩, List.mem_of_getElem? (i := 989) (by decide +kernel), List.mem_of_getElem? (i := 1327) (by decide +kernel), List.mem_of_getElem? (i := 1328) (by decide +kernel)⟩
def lw_privs_3 : List (MethodName × Nat) := [(⟨"PostalLinesModel", "foldOf", "(I)I"⟩, 64), (⟨"PostalLinesModel", "taken", "()I"⟩, 64), (⟨"PostalLinesModel", "isBroken", "()Z"⟩, 64), (⟨"PostalLinesModel", "isPair", "(I)Z"⟩, 64), (⟨"PostalLinesModel", "takeFolded", "(I)V"⟩, 64), (⟨"PostalLinesModel", "take", "(I)V"⟩, 64), (⟨"PostalLinesModel", "isWordOf", "(III)Z"⟩, 64), (⟨"PostalLinesModel", "isName", "(I)Z"⟩, 64), (⟨"PostalLinesModel", "fitCost", "(IIII)I"⟩, 64), (⟨"PostalLinesModel", "nameCost", "(III)I"⟩, 64), (⟨"PostalLinesModel", "stepAt", "(III)V"⟩, 64), (⟨"PostalLinesModel", "isSlip", "(III)Z"⟩, 64), (⟨"PostalLinesModel", "standsFor", "(III)I"⟩, 64), (⟨"PostalLinesModel", "bestAt", "(III)V"⟩, 64), (⟨"PostalLinesModel", "offer", "(IIIIIII)V"⟩, 64), (⟨"PostalLinesModel", "rowCost", "(III)I"⟩, 64)]
theorem lw_r3 : ∀ q ∈ lw_privs_3, lw_okq q := List.forall_mem_cons.mpr ⟨lw_p32, List.forall_mem_cons.mpr ⟨lw_p33, List.forall_mem_cons.mpr ⟨lw_p34, List.forall_mem_cons.mpr ⟨lw_p35, List.forall_mem_cons.mpr ⟨lw_p36, List.forall_mem_cons.mpr ⟨lw_p37, List.forall_mem_cons.mpr ⟨lw_p38, List.forall_mem_cons.mpr ⟨lw_p39, List.forall_mem_cons.mpr ⟨lw_p40, List.forall_mem_cons.mpr ⟨lw_p41, List.forall_mem_cons.mpr ⟨lw_p42, List.forall_mem_cons.mpr ⟨lw_p43, List.forall_mem_cons.mpr ⟨lw_p44, List.forall_mem_cons.mpr ⟨lw_p45, List.forall_mem_cons.mpr ⟨lw_p46, List.forall_mem_cons.mpr ⟨lw_p47, fun _ h => absurd h List.not_mem_nil⟩⟩⟩⟩⟩⟩⟩⟩⟩⟩⟩⟩⟩⟩⟩⟩
theorem lw_p48 : lw_okq (⟨"PostalLinesModel", "isNumber", "(I)Z"⟩, 64) := ⟨⟨by decide +kernel, by decide +kernel⟩, List.mem_of_getElem? (i := 989) (by decide +kernel), List.mem_of_getElem? (i := 1331) (by decide +kernel), List.mem_of_getElem? (i := 1332) (by decide +kernel)⟩
theorem lw_p49 : lw_okq (⟨"PostalLinesModel", "figures", "(I)I"⟩, 64) := ⟨⟨by decide +kernel, by decide +kernel⟩, List.mem_of_getElem? (i := 989) (by decide +kernel), List.mem_of_getElem? (i := 1335) (by decide +kernel), List.mem_of_getElem? (i := 1336) (by decide +kernel)⟩
theorem lw_p50 : lw_okq (⟨"PostalLinesModel", "unitWordAt", "(I)I"⟩, 64) := ⟨⟨by decide +kernel, by decide +kernel⟩, List.mem_of_getElem? (i := 989) (by decide +kernel), List.mem_of_getElem? (i := 1339) (by decide +kernel), List.mem_of_getElem? (i := 1340) (by decide +kernel)⟩
theorem lw_p51 : lw_okq (⟨"PostalLinesModel", "deliver", "(I)I"⟩, 64) := ⟨⟨by decide +kernel, by decide +kernel⟩, List.mem_of_getElem? (i := 989) (by decide +kernel), List.mem_of_getElem? (i := 1343) (by decide +kernel), List.mem_of_getElem? (i := 1344) (by decide +kernel)⟩
theorem lw_p52 : lw_okq (⟨"PostalLinesModel", "layAll", "(I)I"⟩, 64) := ⟨⟨by decide +kernel, by decide +kernel⟩, List.mem_of_getElem? (i := 989) (by decide +kernel), List.mem_of_getElem? (i := 1347) (by decide +kernel), List.mem_of_getElem? (i := 1348) (by decide +kernel)⟩
theorem lw_p53 : lw_okq (⟨"PostalLinesModel", "keepNewest", "(I)V"⟩, 64) := ⟨⟨by decide +kernel, by decide +kernel⟩, List.mem_of_getElem? (i := 989) (by decide +kernel), List.mem_of_getElem? (i := 1351) (by decide +kernel), List.mem_of_getElem? (i := 1352) (by decide +kernel)⟩
theorem lw_p54 : lw_okq (⟨"PostalLinesModel", "layRows", "(II)V"⟩, 64) := ⟨⟨by decide +kernel, by decide +kernel⟩, List.mem_of_getElem? (i := 989) (by decide +kernel), List.mem_of_getElem? (i := 1355) (by decide +kernel), List.mem_of_getElem? (i := 1356) (by decide +kernel)⟩
theorem lw_p55 : lw_okq (⟨"PostalLinesModel", "blank", "(I)V"⟩, 64) := ⟨⟨by decide +kernel, by decide +kernel⟩, List.mem_of_getElem? (i := 989) (by decide +kernel), List.mem_of_getElem? (i := 1359) (by decide +kernel), List.mem_of_getElem? (i := 1360) (by decide +kernel)⟩
theorem lw_p56 : lw_okq (⟨"PostalLinesModel", "lay", "(IIII)V"⟩, 64) := ⟨⟨by decide +kernel, by decide +kernel⟩, List.mem_of_getElem? (i := 989) (by decide +kernel), List.mem_of_getElem? (i := 1363) (by decide +kernel), List.mem_of_getElem? (i := 1364) (by decide +kernel)⟩
theorem lw_p57 : lw_okq (⟨"PostalLinesModel", "valueOf", "(I)I"⟩, 64) := ⟨⟨by decide +kernel, by decide +kernel⟩, List.mem_of_getElem? (i := 989) (by decide +kernel), List.mem_of_getElem? (i := 1367) (by decide +kernel), List.mem_of_getElem? (i := 1368) (by decide +kernel)⟩
theorem lw_p58 : lw_okq (⟨"PostalLinesModel", "isAlike", "(II)Z"⟩, 64) := ⟨⟨by decide +kernel, by decide +kernel⟩, List.mem_of_getElem? (i := 989) (by decide +kernel), List.mem_of_getElem? (i := 1371) (by decide +kernel), List.mem_of_getElem? (i := 1372) (by decide +kernel)⟩
theorem lw_p59 : lw_okq (⟨"PostalLinesModel", "isAlikeNewest", "(I)Z"⟩, 64) := ⟨⟨by decide +kernel, by decide +kernel⟩, List.mem_of_getElem? (i := 989) (by decide +kernel), List.mem_of_getElem? (i := 1375) (by decide +kernel), List.mem_of_getElem? (i := 1376) (by decide +kernel)⟩
theorem lw_p60 : lw_okq (⟨"PostalLinesModel", "putBack", "(II)V"⟩, 64) := ⟨⟨by decide +kernel, by decide +kernel⟩, List.mem_of_getElem? (i := 989) (by decide +kernel), List.mem_of_getElem? (i := 1379) (by decide +kernel), List.mem_of_getElem? (i := 1380) (by decide +kernel)⟩
theorem lw_p61 : lw_okq (⟨"PostalLinesModel", "isDelivery", "(I)Z"⟩, 64) := ⟨⟨by decide +kernel, by decide +kernel⟩, List.mem_of_getElem? (i := 989) (by decide +kernel), List.mem_of_getElem? (i := 1395) (by decide +kernel), List.mem_of_getElem? (i := 1396) (by decide +kernel)⟩
theorem lw_p62 : lw_okq (⟨"PostalLinesModel", "serves", "(II)Z"⟩, 64) := ⟨⟨by decide +kernel, by decide +kernel⟩, List.mem_of_getElem? (i := 989) (by decide +kernel), List.mem_of_getElem? (i := 1407) (by decide +kernel), List.mem_of_getElem? (i := 1408) (by decide +kernel)⟩
theorem lw_p63 : lw_okq (⟨"PostalLinesModel", "write", "(I)V"⟩, 64) := ⟨⟨by decide +kernel, by decide +kernel⟩, List.mem_of_getElem? (i := 989) (by decide +kernel), List.mem_of_getElem? (i := 1415) (by decide +kernel), List.mem_of_getElem? (i := 1416) (by decide +kernel)⟩
def lw_privs_4 : List (MethodName × Nat) := [(⟨"PostalLinesModel", "isNumber", "(I)Z"⟩, 64), (⟨"PostalLinesModel", "figures", "(I)I"⟩, 64), (⟨"PostalLinesModel", "unitWordAt", "(I)I"⟩, 64), (⟨"PostalLinesModel", "deliver", "(I)I"⟩, 64), (⟨"PostalLinesModel", "layAll", "(I)I"⟩, 64), (⟨"PostalLinesModel", "keepNewest", "(I)V"⟩, 64), (⟨"PostalLinesModel", "layRows", "(II)V"⟩, 64), (⟨"PostalLinesModel", "blank", "(I)V"⟩, 64), (⟨"PostalLinesModel", "lay", "(IIII)V"⟩, 64), (⟨"PostalLinesModel", "valueOf", "(I)I"⟩, 64), (⟨"PostalLinesModel", "isAlike", "(II)Z"⟩, 64), (⟨"PostalLinesModel", "isAlikeNewest", "(I)Z"⟩, 64), (⟨"PostalLinesModel", "putBack", "(II)V"⟩, 64), (⟨"PostalLinesModel", "isDelivery", "(I)Z"⟩, 64), (⟨"PostalLinesModel", "serves", "(II)Z"⟩, 64), (⟨"PostalLinesModel", "write", "(I)V"⟩, 64)]
theorem lw_r4 : ∀ q ∈ lw_privs_4, lw_okq q := List.forall_mem_cons.mpr ⟨lw_p48, List.forall_mem_cons.mpr ⟨lw_p49, List.forall_mem_cons.mpr ⟨lw_p50, List.forall_mem_cons.mpr ⟨lw_p51, List.forall_mem_cons.mpr ⟨lw_p52, List.forall_mem_cons.mpr ⟨lw_p53, List.forall_mem_cons.mpr ⟨lw_p54, List.forall_mem_cons.mpr ⟨lw_p55, List.forall_mem_cons.mpr ⟨lw_p56, List.forall_mem_cons.mpr ⟨lw_p57, List.forall_mem_cons.mpr ⟨lw_p58, List.forall_mem_cons.mpr ⟨lw_p59, List.forall_mem_cons.mpr ⟨lw_p60, List.forall_mem_cons.mpr ⟨lw_p61, List.forall_mem_cons.mpr ⟨lw_p62, List.forall_mem_cons.mpr ⟨lw_p63, fun _ h => absurd h List.not_mem_nil⟩⟩⟩⟩⟩⟩⟩⟩⟩⟩⟩⟩⟩⟩⟩⟩
theorem lw_p64 : lw_okq (⟨"PostalLinesModel", "writePart", "(II)V"⟩, 64) := ⟨⟨by decide +kernel, by decide +kernel⟩, List.mem_of_getElem? (i := 989) (by decide +kernel), List.mem_of_getElem? (i := 1420) (by decide +kernel), List.mem_of_getElem? (i := 1421) (by decide +kernel)⟩
theorem lw_p65 : lw_okq (⟨"PostalLinesModel", "writeFigures", "(II)V"⟩, 64) := ⟨⟨by decide +kernel, by decide +kernel⟩, List.mem_of_getElem? (i := 989) (by decide +kernel), List.mem_of_getElem? (i := 1424) (by decide +kernel), List.mem_of_getElem? (i := 1425) (by decide +kernel)⟩
theorem lw_p66 : lw_okq (⟨"PostalLinesModel", "writeName", "(IZ)V"⟩, 64) := ⟨⟨by decide +kernel, by decide +kernel⟩, List.mem_of_getElem? (i := 989) (by decide +kernel), List.mem_of_getElem? (i := 1428) (by decide +kernel), List.mem_of_getElem? (i := 1429) (by decide +kernel)⟩
def lw_privs_5 : List (MethodName × Nat) := [(⟨"PostalLinesModel", "writePart", "(II)V"⟩, 64), (⟨"PostalLinesModel", "writeFigures", "(II)V"⟩, 64), (⟨"PostalLinesModel", "writeName", "(IZ)V"⟩, 64)]
theorem lw_r5 : ∀ q ∈ lw_privs_5, lw_okq q := List.forall_mem_cons.mpr ⟨lw_p64, List.forall_mem_cons.mpr ⟨lw_p65, List.forall_mem_cons.mpr ⟨lw_p66, fun _ h => absurd h List.not_mem_nil⟩⟩⟩
def lw_privs : List (MethodName × Nat) := lw_privs_1 ++ (lw_privs_2 ++ (lw_privs_3 ++ (lw_privs_4 ++ (lw_privs_5))))
def lw_tbl : List Cond := k2_sels lw_privs ++ tables_1
theorem lw_privs_ok : ∀ q ∈ lw_privs, lw_okq q := by
  show ∀ q ∈ lw_privs_1 ++ (lw_privs_2 ++ (lw_privs_3 ++ (lw_privs_4 ++ (lw_privs_5)))), lw_okq q
  exact List.forall_mem_append.mpr ⟨lw_r1, List.forall_mem_append.mpr ⟨lw_r2, List.forall_mem_append.mpr ⟨lw_r3, List.forall_mem_append.mpr ⟨lw_r4, lw_r5⟩⟩⟩⟩
-- ===== end of PART A; then your names; then what follows =====
def RX0 : String := "PostalLines$Book"
def TX0 : u_T := fun k => match k with
  | 0 => ("PostalLines$Book", "signs", "[I", true)
  | 1 => ("PostalLines$Book", "lengths", "[I", true)
  | 2 => ("PostalLines$Book", "nameWords", "[I", true)
  | 3 => ("PostalLines$Book", "nameSizes", "[I", true)
  | 4 => ("PostalLines$Book", "shortNames", "[I", true)
  | 5 => ("PostalLines$Book", "longNames", "[I", true)
  | 6 => ("PostalLines$Book", "found", "[I", true)
  | 7 => ("PostalLines$Book", "bookWords", "I", false)
  | 8 => ("PostalLines$Book", "names", "I", false)
  | _ => ("PostalLines$Book", "shorts", "I", false)
def tyX0 : Nat → FieldType := fun k => match k with
  | 0 => .array .int
  | 1 => .array .int
  | 2 => .array .int
  | 3 => .array .int
  | 4 => .array .int
  | 5 => .array .int
  | 6 => .array .int
  | 7 => .int
  | 8 => .int
  | _ => .int
abbrev wsX00 : List Cond := u_ws RX0 TX0 10
theorem nmX0 : ∀ a, a < 10 → ∀ b, b < 10 → a ≠ b → (TX0 a).2.1 ≠ (TX0 b).2.1 := by decide +kernel
theorem tyX0_ok : ∀ k, k < 10 → parseFieldDescriptor (TX0 k).2.2.1 = some (tyX0 k) := by decide +kernel
abbrev cX0_init : ByteArray := prog_2_method_1_code
def yX0_init : MethodName := ⟨RX0, "<init>", "()V"⟩
abbrev cX0_hasName : ByteArray := prog_2_method_2_code
def yX0_hasName : MethodName := ⟨RX0, "hasName", "(I)Z"⟩
abbrev cX0_sizeOf : ByteArray := prog_2_method_3_code
def yX0_sizeOf : MethodName := ⟨RX0, "sizeOf", "(I)I"⟩
abbrev cX0_wordOf : ByteArray := prog_2_method_4_code
def yX0_wordOf : MethodName := ⟨RX0, "wordOf", "(II)I"⟩
abbrev cX0_lengthOf : ByteArray := prog_2_method_5_code
def yX0_lengthOf : MethodName := ⟨RX0, "lengthOf", "(I)I"⟩
abbrev cX0_signAt : ByteArray := prog_2_method_6_code
def yX0_signAt : MethodName := ⟨RX0, "signAt", "(II)I"⟩
abbrev cX0_enter : ByteArray := prog_2_method_7_code
def yX0_enter : MethodName := ⟨RX0, "enter", "(LPostalLines$Words;)I"⟩
abbrev cX0_wordLike : ByteArray := prog_2_method_8_code
def yX0_wordLike : MethodName := ⟨RX0, "wordLike", "(LPostalLines$Words;I)I"⟩
abbrev cX0_hasShort : ByteArray := prog_2_method_9_code
def yX0_hasShort : MethodName := ⟨RX0, "hasShort", "(II)Z"⟩
abbrev cX0_addShort : ByteArray := prog_2_method_10_code
def yX0_addShort : MethodName := ⟨RX0, "addShort", "(II)V"⟩
abbrev cX0_shortReach : ByteArray := prog_2_method_11_code
def yX0_shortReach : MethodName := ⟨RX0, "shortReach", "(IIII)I"⟩
abbrev cX0_isFound : ByteArray := prog_2_method_12_code
def yX0_isFound : MethodName := ⟨RX0, "isFound", "(II)Z"⟩
abbrev cX0_isLike : ByteArray := prog_2_method_13_code
def yX0_isLike : MethodName := ⟨RX0, "isLike", "(LPostalLines$Words;II)Z"⟩
abbrev cX0_addWord : ByteArray := prog_2_method_14_code
def yX0_addWord : MethodName := ⟨RX0, "addWord", "(LPostalLines$Words;I)I"⟩
def RX1 : String := "PostalLines$Deliveries"
def TX1 : u_T := fun k => match k with
  | 0 => ("PostalLines$Deliveries", "fields", "[I", true)
  | 1 => ("PostalLines$Deliveries", "drafted", "[I", true)
  | _ => ("PostalLines$Deliveries", "size", "I", false)
def tyX1 : Nat → FieldType := fun k => match k with
  | 0 => .array .int
  | 1 => .array .int
  | _ => .int
abbrev wsX10 : List Cond := u_ws RX1 TX1 3
theorem nmX1 : ∀ a, a < 3 → ∀ b, b < 3 → a ≠ b → (TX1 a).2.1 ≠ (TX1 b).2.1 := by decide +kernel
theorem tyX1_ok : ∀ k, k < 3 → parseFieldDescriptor (TX1 k).2.2.1 = some (tyX1 k) := by decide +kernel
abbrev cX1_init : ByteArray := prog_3_method_1_code
def yX1_init : MethodName := ⟨RX1, "<init>", "()V"⟩
abbrev cX1_has : ByteArray := prog_3_method_2_code
def yX1_has : MethodName := ⟨RX1, "has", "(I)Z"⟩
abbrev cX1_get : ByteArray := prog_3_method_3_code
def yX1_get : MethodName := ⟨RX1, "get", "(II)I"⟩
abbrev cX1_unitSignAt : ByteArray := prog_3_method_4_code
def yX1_unitSignAt : MethodName := ⟨RX1, "unitSignAt", "(II)I"⟩
abbrev cX1_clearDraft : ByteArray := prog_3_method_5_code
def yX1_clearDraft : MethodName := ⟨RX1, "clearDraft", "()V"⟩
abbrev cX1_draft : ByteArray := prog_3_method_6_code
def yX1_draft : MethodName := ⟨RX1, "draft", "(II)V"⟩
abbrev cX1_keepDraft : ByteArray := prog_3_method_7_code
def yX1_keepDraft : MethodName := ⟨RX1, "keepDraft", "()I"⟩
abbrev cX1_isDrafted : ByteArray := prog_3_method_8_code
def yX1_isDrafted : MethodName := ⟨RX1, "isDrafted", "(I)Z"⟩
def RX2 : String := "PostalLines$Fitting"
def TX2 : u_T := fun k => match k with
  | 0 => ("PostalLines$Fitting", "book", "LPostalLines$Book;", true)
  | 1 => ("PostalLines$Fitting", "text", "LPostalLines$Words;", true)
  | 2 => ("PostalLines$Fitting", "bookWord", "[I", true)
  | 3 => ("PostalLines$Fitting", "wordCosts", "[I", true)
  | _ => ("PostalLines$Fitting", "costs", "[I", true)
def tyX2 : Nat → FieldType := fun k => match k with
  | 0 => .object "PostalLines$Book"
  | 1 => .object "PostalLines$Words"
  | 2 => .array .int
  | 3 => .array .int
  | _ => .array .int
abbrev wsX20 : List Cond := u_ws RX2 TX2 5
theorem nmX2 : ∀ a, a < 5 → ∀ b, b < 5 → a ≠ b → (TX2 a).2.1 ≠ (TX2 b).2.1 := by decide +kernel
theorem tyX2_ok : ∀ k, k < 5 → parseFieldDescriptor (TX2 k).2.2.1 = some (tyX2 k) := by decide +kernel
abbrev cX2_init : ByteArray := prog_4_method_1_code
def yX2_init : MethodName := ⟨RX2, "<init>", "(LPostalLines$Book;LPostalLines$Words;)V"⟩
abbrev cX2_prepare : ByteArray := prog_4_method_2_code
def yX2_prepare : MethodName := ⟨RX2, "prepare", "()V"⟩
abbrev cX2_bookWordOf : ByteArray := prog_4_method_3_code
def yX2_bookWordOf : MethodName := ⟨RX2, "bookWordOf", "(I)I"⟩
abbrev cX2_walk : ByteArray := prog_4_method_4_code
def yX2_walk : MethodName := ⟨RX2, "walk", "(II)V"⟩
abbrev cX2_costOf : ByteArray := prog_4_method_5_code
def yX2_costOf : MethodName := ⟨RX2, "costOf", "(II)I"⟩
abbrev cX2_step : ByteArray := prog_4_method_6_code
def yX2_step : MethodName := ⟨RX2, "step", "(IIII)V"⟩
abbrev cX2_lower : ByteArray := prog_4_method_7_code
def yX2_lower : MethodName := ⟨RX2, "lower", "(III)V"⟩
abbrev cX2_hasOneSlip : ByteArray := prog_4_method_8_code
def yX2_hasOneSlip : MethodName := ⟨RX2, "hasOneSlip", "(II)Z"⟩
def RX3 : String := "PostalLines$Folds"
def TX3 : u_T := fun k => match k with
  | 0 => ("PostalLines$Folds", "from", "[I", true)
  | 1 => ("PostalLines$Folds", "first", "[I", true)
  | 2 => ("PostalLines$Folds", "second", "[I", true)
  | _ => ("PostalLines$Folds", "size", "I", false)
def tyX3 : Nat → FieldType := fun k => match k with
  | 0 => .array .int
  | 1 => .array .int
  | 2 => .array .int
  | _ => .int
abbrev wsX30 : List Cond := u_ws RX3 TX3 4
theorem nmX3 : ∀ a, a < 4 → ∀ b, b < 4 → a ≠ b → (TX3 a).2.1 ≠ (TX3 b).2.1 := by decide +kernel
theorem tyX3_ok : ∀ k, k < 4 → parseFieldDescriptor (TX3 k).2.2.1 = some (tyX3 k) := by decide +kernel
abbrev cX3_init : ByteArray := prog_5_method_1_code
def yX3_init : MethodName := ⟨RX3, "<init>", "()V"⟩
abbrev cX3_indexOf : ByteArray := prog_5_method_2_code
def yX3_indexOf : MethodName := ⟨RX3, "indexOf", "(I)I"⟩
abbrev cX3_firstOf : ByteArray := prog_5_method_3_code
def yX3_firstOf : MethodName := ⟨RX3, "firstOf", "(I)I"⟩
abbrev cX3_secondOf : ByteArray := prog_5_method_4_code
def yX3_secondOf : MethodName := ⟨RX3, "secondOf", "(I)I"⟩
abbrev cX3_add : ByteArray := prog_5_method_5_code
def yX3_add : MethodName := ⟨RX3, "add", "(III)V"⟩
def RX4 : String := "PostalLines$Grammars"
def TX4 : u_T := fun k => match k with
  | 0 => ("PostalLines$Grammars", "sizes", "[I", true)
  | 1 => ("PostalLines$Grammars", "orders", "[I", true)
  | 2 => ("PostalLines$Grammars", "musts", "[I", true)
  | _ => ("PostalLines$Grammars", "size", "I", false)
def tyX4 : Nat → FieldType := fun k => match k with
  | 0 => .array .int
  | 1 => .array .int
  | 2 => .array .int
  | _ => .int
abbrev wsX40 : List Cond := u_ws RX4 TX4 4
theorem nmX4 : ∀ a, a < 4 → ∀ b, b < 4 → a ≠ b → (TX4 a).2.1 ≠ (TX4 b).2.1 := by decide +kernel
theorem tyX4_ok : ∀ k, k < 4 → parseFieldDescriptor (TX4 k).2.2.1 = some (tyX4 k) := by decide +kernel
abbrev cX4_init : ByteArray := prog_6_method_1_code
def yX4_init : MethodName := ⟨RX4, "<init>", "()V"⟩
abbrev cX4_isGrammar : ByteArray := prog_6_method_2_code
def yX4_isGrammar : MethodName := ⟨RX4, "isGrammar", "(III)Z"⟩
abbrev cX4_add : ByteArray := prog_6_method_3_code
def yX4_add : MethodName := ⟨RX4, "add", "(III)I"⟩
abbrev cX4_sizeOf : ByteArray := prog_6_method_4_code
def yX4_sizeOf : MethodName := ⟨RX4, "sizeOf", "(I)I"⟩
abbrev cX4_partOf : ByteArray := prog_6_method_5_code
def yX4_partOf : MethodName := ⟨RX4, "partOf", "(II)I"⟩
abbrev cX4_mustBe : ByteArray := prog_6_method_6_code
def yX4_mustBe : MethodName := ⟨RX4, "mustBe", "(II)Z"⟩
abbrev cX4_partAt : ByteArray := prog_6_method_7_code
def yX4_partAt : MethodName := ⟨RX4, "partAt", "(II)I"⟩
def RX5 : String := "PostalLines$Line"
def TX5 : u_T := fun k => match k with
  | 0 => ("PostalLines$Line", "units", "[I", true)
  | _ => ("PostalLines$Line", "size", "I", false)
def tyX5 : Nat → FieldType := fun k => match k with
  | 0 => .array .int
  | _ => .int
abbrev wsX50 : List Cond := u_ws RX5 TX5 2
theorem nmX5 : ∀ a, a < 2 → ∀ b, b < 2 → a ≠ b → (TX5 a).2.1 ≠ (TX5 b).2.1 := by decide +kernel
theorem tyX5_ok : ∀ k, k < 2 → parseFieldDescriptor (TX5 k).2.2.1 = some (tyX5 k) := by decide +kernel
abbrev cX5_init : ByteArray := prog_7_method_1_code
def yX5_init : MethodName := ⟨RX5, "<init>", "()V"⟩
abbrev cX5_append : ByteArray := prog_7_method_2_code
def yX5_append : MethodName := ⟨RX5, "append", "(I)V"⟩
abbrev cX5_clear : ByteArray := prog_7_method_3_code
def yX5_clear : MethodName := ⟨RX5, "clear", "()V"⟩
abbrev cX5_get : ByteArray := prog_7_method_4_code
def yX5_get : MethodName := ⟨RX5, "get", "(I)I"⟩
def RX6 : String := "PostalLines$Places"
def TX6 : u_T := fun k => match k with
  | 0 => ("PostalLines$Places", "streetNames", "[I", true)
  | 1 => ("PostalLines$Places", "streetSizes", "[I", true)
  | 2 => ("PostalLines$Places", "townNames", "[I", true)
  | 3 => ("PostalLines$Places", "townLows", "[I", true)
  | 4 => ("PostalLines$Places", "townHighs", "[I", true)
  | 5 => ("PostalLines$Places", "unitNames", "[I", true)
  | 6 => ("PostalLines$Places", "unitBookWords", "[I", true)
  | 7 => ("PostalLines$Places", "rangeStreets", "[I", true)
  | 8 => ("PostalLines$Places", "rangeLows", "[I", true)
  | 9 => ("PostalLines$Places", "rangeHighs", "[I", true)
  | 10 => ("PostalLines$Places", "rangeSides", "[I", true)
  | 11 => ("PostalLines$Places", "rangeTowns", "[I", true)
  | 12 => ("PostalLines$Places", "rangeCarriers", "[I", true)
  | 13 => ("PostalLines$Places", "streets", "I", false)
  | 14 => ("PostalLines$Places", "towns", "I", false)
  | 15 => ("PostalLines$Places", "unitWords", "I", false)
  | _ => ("PostalLines$Places", "ranges", "I", false)
def tyX6 : Nat → FieldType := fun k => match k with
  | 0 => .array .int
  | 1 => .array .int
  | 2 => .array .int
  | 3 => .array .int
  | 4 => .array .int
  | 5 => .array .int
  | 6 => .array .int
  | 7 => .array .int
  | 8 => .array .int
  | 9 => .array .int
  | 10 => .array .int
  | 11 => .array .int
  | 12 => .array .int
  | 13 => .int
  | 14 => .int
  | 15 => .int
  | _ => .int
abbrev wsX60 : List Cond := u_ws RX6 TX6 17
theorem nmX6 : ∀ a, a < 17 → ∀ b, b < 17 → a ≠ b → (TX6 a).2.1 ≠ (TX6 b).2.1 := by decide +kernel
theorem tyX6_ok : ∀ k, k < 17 → parseFieldDescriptor (TX6 k).2.2.1 = some (tyX6 k) := by decide +kernel
abbrev cX6_init : ByteArray := prog_8_method_1_code
def yX6_init : MethodName := ⟨RX6, "<init>", "()V"⟩
abbrev cX6_sizeOf : ByteArray := prog_8_method_2_code
def yX6_sizeOf : MethodName := ⟨RX6, "sizeOf", "(I)I"⟩
abbrev cX6_has : ByteArray := prog_8_method_3_code
def yX6_has : MethodName := ⟨RX6, "has", "(II)Z"⟩
abbrev cX6_namesOf : ByteArray := prog_8_method_4_code
def yX6_namesOf : MethodName := ⟨RX6, "namesOf", "(II)I"⟩
abbrev cX6_nameOf : ByteArray := prog_8_method_5_code
def yX6_nameOf : MethodName := ⟨RX6, "nameOf", "(III)I"⟩
abbrev cX6_addStreet : ByteArray := prog_8_method_6_code
def yX6_addStreet : MethodName := ⟨RX6, "addStreet", "(I)I"⟩
abbrev cX6_addStreetName : ByteArray := prog_8_method_7_code
def yX6_addStreetName : MethodName := ⟨RX6, "addStreetName", "(II)I"⟩
abbrev cX6_streetHasName : ByteArray := prog_8_method_8_code
def yX6_streetHasName : MethodName := ⟨RX6, "streetHasName", "(II)Z"⟩
abbrev cX6_addTown : ByteArray := prog_8_method_9_code
def yX6_addTown : MethodName := ⟨RX6, "addTown", "(III)I"⟩
abbrev cX6_isUnitName : ByteArray := prog_8_method_10_code
def yX6_isUnitName : MethodName := ⟨RX6, "isUnitName", "(I)Z"⟩
abbrev cX6_addUnitName : ByteArray := prog_8_method_11_code
def yX6_addUnitName : MethodName := ⟨RX6, "addUnitName", "(II)I"⟩
abbrev cX6_unitNameOf : ByteArray := prog_8_method_12_code
def yX6_unitNameOf : MethodName := ⟨RX6, "unitNameOf", "(I)I"⟩
abbrev cX6_addRange : ByteArray := prog_8_method_13_code
def yX6_addRange : MethodName := ⟨RX6, "addRange", "(IIIIII)I"⟩
abbrev cX6_carrierOf : ByteArray := prog_8_method_14_code
def yX6_carrierOf : MethodName := ⟨RX6, "carrierOf", "(IIII)I"⟩
abbrev cX6_hasNumber : ByteArray := prog_8_method_15_code
def yX6_hasNumber : MethodName := ⟨RX6, "hasNumber", "(II)Z"⟩
abbrev cX6_hasCode : ByteArray := prog_8_method_16_code
def yX6_hasCode : MethodName := ⟨RX6, "hasCode", "(II)Z"⟩
def RX7 : String := "PostalLines$Reader"
def TX7 : u_T := fun k => match k with
  | 0 => ("PostalLines$Reader", "text", "LPostalLines$Words;", true)
  | 1 => ("PostalLines$Reader", "places", "LPostalLines$Places;", true)
  | 2 => ("PostalLines$Reader", "grammars", "LPostalLines$Grammars;", true)
  | 3 => ("PostalLines$Reader", "fitting", "LPostalLines$Fitting;", true)
  | 4 => ("PostalLines$Reader", "deliveries", "LPostalLines$Deliveries;", true)
  | 5 => ("PostalLines$Reader", "streetRows", "LPostalLines$Rows;", true)
  | 6 => ("PostalLines$Reader", "townRows", "LPostalLines$Rows;", true)
  | 7 => ("PostalLines$Reader", "unitNames", "[I", true)
  | 8 => ("PostalLines$Reader", "ways", "[J", true)
  | 9 => ("PostalLines$Reader", "best", "J", false)
  | 10 => ("PostalLines$Reader", "latest", "J", false)
  | _ => ("PostalLines$Reader", "latestWords", "I", false)
def tyX7 : Nat → FieldType := fun k => match k with
  | 0 => .object "PostalLines$Words"
  | 1 => .object "PostalLines$Places"
  | 2 => .object "PostalLines$Grammars"
  | 3 => .object "PostalLines$Fitting"
  | 4 => .object "PostalLines$Deliveries"
  | 5 => .object "PostalLines$Rows"
  | 6 => .object "PostalLines$Rows"
  | 7 => .array .int
  | 8 => .array .long
  | 9 => .long
  | 10 => .long
  | _ => .int
abbrev wsX70 : List Cond := u_ws RX7 TX7 12
theorem nmX7 : ∀ a, a < 12 → ∀ b, b < 12 → a ≠ b → (TX7 a).2.1 ≠ (TX7 b).2.1 := by decide +kernel
theorem tyX7_ok : ∀ k, k < 12 → parseFieldDescriptor (TX7 k).2.2.1 = some (tyX7 k) := by decide +kernel
abbrev cX7_init : ByteArray := prog_9_method_1_code
def yX7_init : MethodName := ⟨RX7, "<init>", "(LPostalLines$Words;LPostalLines$Places;LPostalLines$Grammars;LPostalLines$Fitting;LPostalLines$Deliveries;)V"⟩
abbrev cX7_findBest : ByteArray := prog_9_method_2_code
def yX7_findBest : MethodName := ⟨RX7, "findBest", "(I)Z"⟩
abbrev cX7_keepBest : ByteArray := prog_9_method_3_code
def yX7_keepBest : MethodName := ⟨RX7, "keepBest", "()V"⟩
abbrev cX7_latestCost : ByteArray := prog_9_method_4_code
def yX7_latestCost : MethodName := ⟨RX7, "latestCost", "()I"⟩
abbrev cX7_latestMark : ByteArray := prog_9_method_5_code
def yX7_latestMark : MethodName := ⟨RX7, "latestMark", "(I)I"⟩
abbrev cX7_describe : ByteArray := prog_9_method_6_code
def yX7_describe : MethodName := ⟨RX7, "describe", "(I)V"⟩
abbrev cX7_describePart : ByteArray := prog_9_method_7_code
def yX7_describePart : MethodName := ⟨RX7, "describePart", "(III)V"⟩
abbrev cX7_describeUnit : ByteArray := prog_9_method_8_code
def yX7_describeUnit : MethodName := ⟨RX7, "describeUnit", "(I)V"⟩
abbrev cX7_leastWay : ByteArray := prog_9_method_9_code
def yX7_leastWay : MethodName := ⟨RX7, "leastWay", "(III)J"⟩
abbrev cX7_wayAt : ByteArray := prog_9_method_10_code
def yX7_wayAt : MethodName := ⟨RX7, "wayAt", "(II)J"⟩
abbrev cX7_putWay : ByteArray := prog_9_method_11_code
def yX7_putWay : MethodName := ⟨RX7, "putWay", "(IIJ)V"⟩
abbrev cX7_plus : ByteArray := prog_9_method_12_code
def yX7_plus : MethodName := ⟨RX7, "plus", "(JIJ)J"⟩
abbrev cX7_marks : ByteArray := prog_9_method_13_code
def yX7_marks : MethodName := ⟨RX7, "marks", "(III)J"⟩
abbrev cX7_markOf : ByteArray := prog_9_method_14_code
def yX7_markOf : MethodName := ⟨RX7, "markOf", "(JII)I"⟩
abbrev cX7_rowCost : ByteArray := prog_9_method_15_code
def yX7_rowCost : MethodName := ⟨RX7, "rowCost", "(III)I"⟩
abbrev cX7_isUnit : ByteArray := prog_9_method_16_code
def yX7_isUnit : MethodName := ⟨RX7, "isUnit", "(I)Z"⟩
abbrev cX7_breakCost : ByteArray := prog_9_method_17_code
def yX7_breakCost : MethodName := ⟨RX7, "breakCost", "(II)I"⟩
def RX8 : String := "PostalLines$Rows"
def TX8 : u_T := fun k => match k with
  | 0 => ("PostalLines$Rows", "costs", "[I", true)
  | _ => ("PostalLines$Rows", "numbers", "[I", true)
def tyX8 : Nat → FieldType := fun k => match k with
  | 0 => .array .int
  | _ => .array .int
abbrev wsX80 : List Cond := u_ws RX8 TX8 2
theorem nmX8 : ∀ a, a < 2 → ∀ b, b < 2 → a ≠ b → (TX8 a).2.1 ≠ (TX8 b).2.1 := by decide +kernel
theorem tyX8_ok : ∀ k, k < 2 → parseFieldDescriptor (TX8 k).2.2.1 = some (tyX8 k) := by decide +kernel
abbrev cX8_init : ByteArray := prog_10_method_1_code
def yX8_init : MethodName := ⟨RX8, "<init>", "()V"⟩
abbrev cX8_fill : ByteArray := prog_10_method_2_code
def yX8_fill : MethodName := ⟨RX8, "fill", "(ILPostalLines$Places;LPostalLines$Fitting;I)V"⟩
abbrev cX8_costOf : ByteArray := prog_10_method_3_code
def yX8_costOf : MethodName := ⟨RX8, "costOf", "(II)I"⟩
abbrev cX8_numberOf : ByteArray := prog_10_method_4_code
def yX8_numberOf : MethodName := ⟨RX8, "numberOf", "(II)I"⟩
abbrev cX8_lower : ByteArray := prog_10_method_5_code
def yX8_lower : MethodName := ⟨RX8, "lower", "(IIILPostalLines$Fitting;)V"⟩
abbrev cX8_cell : ByteArray := prog_10_method_6_code
def yX8_cell : MethodName := ⟨RX8, "cell", "(II)I"⟩
def RX9 : String := "PostalLines$Scribe"
def TX9 : u_T := fun k => match k with
  | 0 => ("PostalLines$Scribe", "book", "LPostalLines$Book;", true)
  | 1 => ("PostalLines$Scribe", "places", "LPostalLines$Places;", true)
  | 2 => ("PostalLines$Scribe", "deliveries", "LPostalLines$Deliveries;", true)
  | 3 => ("PostalLines$Scribe", "units", "[I", true)
  | _ => ("PostalLines$Scribe", "size", "I", false)
def tyX9 : Nat → FieldType := fun k => match k with
  | 0 => .object "PostalLines$Book"
  | 1 => .object "PostalLines$Places"
  | 2 => .object "PostalLines$Deliveries"
  | 3 => .array .int
  | _ => .int
abbrev wsX90 : List Cond := u_ws RX9 TX9 5
theorem nmX9 : ∀ a, a < 5 → ∀ b, b < 5 → a ≠ b → (TX9 a).2.1 ≠ (TX9 b).2.1 := by decide +kernel
theorem tyX9_ok : ∀ k, k < 5 → parseFieldDescriptor (TX9 k).2.2.1 = some (tyX9 k) := by decide +kernel
abbrev cX9_init : ByteArray := prog_11_method_1_code
def yX9_init : MethodName := ⟨RX9, "<init>", "(LPostalLines$Book;LPostalLines$Places;LPostalLines$Deliveries;)V"⟩
abbrev cX9_get : ByteArray := prog_11_method_2_code
def yX9_get : MethodName := ⟨RX9, "get", "(I)I"⟩
abbrev cX9_write : ByteArray := prog_11_method_3_code
def yX9_write : MethodName := ⟨RX9, "write", "(I)V"⟩
abbrev cX9_writePart : ByteArray := prog_11_method_4_code
def yX9_writePart : MethodName := ⟨RX9, "writePart", "(II)V"⟩
abbrev cX9_writeLetter : ByteArray := prog_11_method_5_code
def yX9_writeLetter : MethodName := ⟨RX9, "writeLetter", "(I)V"⟩
abbrev cX9_writeUnitSigns : ByteArray := prog_11_method_6_code
def yX9_writeUnitSigns : MethodName := ⟨RX9, "writeUnitSigns", "(I)V"⟩
abbrev cX9_writeName : ByteArray := prog_11_method_7_code
def yX9_writeName : MethodName := ⟨RX9, "writeName", "(IZ)V"⟩
abbrev cX9_writeFigures : ByteArray := prog_11_method_8_code
def yX9_writeFigures : MethodName := ⟨RX9, "writeFigures", "(II)V"⟩
abbrev cX9_writeSign : ByteArray := prog_11_method_9_code
def yX9_writeSign : MethodName := ⟨RX9, "writeSign", "(I)V"⟩
abbrev cX9_writeUnit : ByteArray := prog_11_method_10_code
def yX9_writeUnit : MethodName := ⟨RX9, "writeUnit", "(I)V"⟩
def RX10 : String := "PostalLines$Words"
def TX10 : u_T := fun k => match k with
  | 0 => ("PostalLines$Words", "signs", "[I", true)
  | 1 => ("PostalLines$Words", "lengths", "[I", true)
  | 2 => ("PostalLines$Words", "figures", "[I", true)
  | 3 => ("PostalLines$Words", "breaks", "[I", true)
  | 4 => ("PostalLines$Words", "size", "I", false)
  | 5 => ("PostalLines$Words", "broken", "Z", false)
  | 6 => ("PostalLines$Words", "tooLong", "Z", false)
  | 7 => ("PostalLines$Words", "inWord", "Z", false)
  | _ => ("PostalLines$Words", "comma", "Z", false)
def tyX10 : Nat → FieldType := fun k => match k with
  | 0 => .array .int
  | 1 => .array .int
  | 2 => .array .int
  | 3 => .array .int
  | 4 => .int
  | 5 => .boolean
  | 6 => .boolean
  | 7 => .boolean
  | _ => .boolean
abbrev wsX100 : List Cond := u_ws RX10 TX10 9
theorem nmX10 : ∀ a, a < 9 → ∀ b, b < 9 → a ≠ b → (TX10 a).2.1 ≠ (TX10 b).2.1 := by decide +kernel
theorem tyX10_ok : ∀ k, k < 9 → parseFieldDescriptor (TX10 k).2.2.1 = some (tyX10 k) := by decide +kernel
abbrev cX10_init : ByteArray := prog_12_method_1_code
def yX10_init : MethodName := ⟨RX10, "<init>", "()V"⟩
abbrev cX10_split : ByteArray := prog_12_method_2_code
def yX10_split : MethodName := ⟨RX10, "split", "(LPostalLines$Line;LPostalLines$Folds;)V"⟩
abbrev cX10_state : ByteArray := prog_12_method_3_code
def yX10_state : MethodName := ⟨RX10, "state", "()I"⟩
abbrev cX10_lengthOf : ByteArray := prog_12_method_4_code
def yX10_lengthOf : MethodName := ⟨RX10, "lengthOf", "(I)I"⟩
abbrev cX10_breakAhead : ByteArray := prog_12_method_5_code
def yX10_breakAhead : MethodName := ⟨RX10, "breakAhead", "(I)I"⟩
abbrev cX10_signAt : ByteArray := prog_12_method_6_code
def yX10_signAt : MethodName := ⟨RX10, "signAt", "(II)I"⟩
abbrev cX10_isNumber : ByteArray := prog_12_method_7_code
def yX10_isNumber : MethodName := ⟨RX10, "isNumber", "(I)Z"⟩
abbrev cX10_isCode : ByteArray := prog_12_method_8_code
def yX10_isCode : MethodName := ⟨RX10, "isCode", "(I)Z"⟩
abbrev cX10_numberOf : ByteArray := prog_12_method_9_code
def yX10_numberOf : MethodName := ⟨RX10, "numberOf", "(I)I"⟩
abbrev cX10_letterOf : ByteArray := prog_12_method_10_code
def yX10_letterOf : MethodName := ⟨RX10, "letterOf", "(I)I"⟩
abbrev cX10_takeFolded : ByteArray := prog_12_method_11_code
def yX10_takeFolded : MethodName := ⟨RX10, "takeFolded", "(ILPostalLines$Folds;)V"⟩
abbrev cX10_take : ByteArray := prog_12_method_12_code
def yX10_take : MethodName := ⟨RX10, "take", "(I)V"⟩
abbrev cX10_begin : ByteArray := prog_12_method_13_code
def yX10_begin : MethodName := ⟨RX10, "begin", "()V"⟩
abbrev cX10_append : ByteArray := prog_12_method_14_code
def yX10_append : MethodName := ⟨RX10, "append", "(I)V"⟩
def RX11 : String := "PostalLines"
def TX11 : u_T := fun k => match k with
  | 0 => ("PostalLines", "line", "LPostalLines$Line;", true)
  | 1 => ("PostalLines", "folds", "LPostalLines$Folds;", true)
  | 2 => ("PostalLines", "text", "LPostalLines$Words;", true)
  | 3 => ("PostalLines", "book", "LPostalLines$Book;", true)
  | 4 => ("PostalLines", "places", "LPostalLines$Places;", true)
  | 5 => ("PostalLines", "grammars", "LPostalLines$Grammars;", true)
  | 6 => ("PostalLines", "fitting", "LPostalLines$Fitting;", true)
  | 7 => ("PostalLines", "reader", "LPostalLines$Reader;", true)
  | 8 => ("PostalLines", "deliveries", "LPostalLines$Deliveries;", true)
  | 9 => ("PostalLines", "scribe", "LPostalLines$Scribe;", true)
  | _ => ("PostalLines", "current", "Z", false)
def tyX11 : Nat → FieldType := fun k => match k with
  | 0 => .object "PostalLines$Line"
  | 1 => .object "PostalLines$Folds"
  | 2 => .object "PostalLines$Words"
  | 3 => .object "PostalLines$Book"
  | 4 => .object "PostalLines$Places"
  | 5 => .object "PostalLines$Grammars"
  | 6 => .object "PostalLines$Fitting"
  | 7 => .object "PostalLines$Reader"
  | 8 => .object "PostalLines$Deliveries"
  | 9 => .object "PostalLines$Scribe"
  | _ => .boolean
abbrev wsX110 : List Cond := u_ws RX11 TX11 11
theorem nmX11 : ∀ a, a < 11 → ∀ b, b < 11 → a ≠ b → (TX11 a).2.1 ≠ (TX11 b).2.1 := by decide +kernel
theorem tyX11_ok : ∀ k, k < 11 → parseFieldDescriptor (TX11 k).2.2.1 = some (tyX11 k) := by decide +kernel
abbrev cX11_init : ByteArray := prog_1_method_1_code
def yX11_init : MethodName := ⟨RX11, "<init>", "()V"⟩
abbrev cX11_feed : ByteArray := prog_1_method_2_code
def yX11_feed : MethodName := ⟨RX11, "feed", "(JI)I"⟩
abbrev cX11_drop : ByteArray := prog_1_method_3_code
def yX11_drop : MethodName := ⟨RX11, "drop", "()I"⟩
abbrev cX11_fold : ByteArray := prog_1_method_4_code
def yX11_fold : MethodName := ⟨RX11, "fold", "(III)I"⟩
abbrev cX11_words : ByteArray := prog_1_method_5_code
def yX11_words : MethodName := ⟨RX11, "words", "()I"⟩
abbrev cX11_sign : ByteArray := prog_1_method_6_code
def yX11_sign : MethodName := ⟨RX11, "sign", "(II)I"⟩
abbrev cX11_name : ByteArray := prog_1_method_7_code
def yX11_name : MethodName := ⟨RX11, "name", "()I"⟩
abbrev cX11_shorten : ByteArray := prog_1_method_8_code
def yX11_shorten : MethodName := ⟨RX11, "shorten", "(II)I"⟩
abbrev cX11_street : ByteArray := prog_1_method_9_code
def yX11_street : MethodName := ⟨RX11, "street", "(I)I"⟩
abbrev cX11_also : ByteArray := prog_1_method_10_code
def yX11_also : MethodName := ⟨RX11, "also", "(II)I"⟩
abbrev cX11_town : ByteArray := prog_1_method_11_code
def yX11_town : MethodName := ⟨RX11, "town", "(III)I"⟩
abbrev cX11_unit : ByteArray := prog_1_method_12_code
def yX11_unit : MethodName := ⟨RX11, "unit", "(I)I"⟩
abbrev cX11_range : ByteArray := prog_1_method_13_code
def yX11_range : MethodName := ⟨RX11, "range", "(IIIIII)I"⟩
abbrev cX11_grammar : ByteArray := prog_1_method_14_code
def yX11_grammar : MethodName := ⟨RX11, "grammar", "(III)I"⟩
abbrev cX11_read : ByteArray := prog_1_method_15_code
def yX11_read : MethodName := ⟨RX11, "read", "(I)I"⟩
abbrev cX11_cost : ByteArray := prog_1_method_16_code
def yX11_cost : MethodName := ⟨RX11, "cost", "()I"⟩
abbrev cX11_mark : ByteArray := prog_1_method_17_code
def yX11_mark : MethodName := ⟨RX11, "mark", "(I)I"⟩
abbrev cX11_fits : ByteArray := prog_1_method_18_code
def yX11_fits : MethodName := ⟨RX11, "fits", "(II)I"⟩
abbrev cX11_of : ByteArray := prog_1_method_19_code
def yX11_of : MethodName := ⟨RX11, "of", "(II)I"⟩
abbrev cX11_unitSign : ByteArray := prog_1_method_20_code
def yX11_unitSign : MethodName := ⟨RX11, "unitSign", "(II)I"⟩
abbrev cX11_carrier : ByteArray := prog_1_method_21_code
def yX11_carrier : MethodName := ⟨RX11, "carrier", "(I)I"⟩
abbrev cX11_canonical : ByteArray := prog_1_method_22_code
def yX11_canonical : MethodName := ⟨RX11, "canonical", "(I)I"⟩
abbrev cX11_unitAt : ByteArray := prog_1_method_23_code
def yX11_unitAt : MethodName := ⟨RX11, "unitAt", "(I)I"⟩
abbrev cX11_count : ByteArray := prog_1_method_24_code
def yX11_count : MethodName := ⟨RX11, "count", "(I)I"⟩
abbrev cX11_freshText : ByteArray := prog_1_method_25_code
def yX11_freshText : MethodName := ⟨RX11, "freshText", "()LPostalLines$Words;"⟩
abbrev cX11_leastOfNames : ByteArray := prog_1_method_26_code
def yX11_leastOfNames : MethodName := ⟨RX11, "leastOfNames", "(II)I"⟩
abbrev cX11_at : ByteArray := prog_1_method_27_code
def yX11_at : MethodName := ⟨RX11, "at", "([II)I"⟩
abbrev cX11_put : ByteArray := prog_1_method_28_code
def yX11_put : MethodName := ⟨RX11, "put", "([III)V"⟩
abbrev cX11_isHalf : ByteArray := prog_1_method_29_code
def yX11_isHalf : MethodName := ⟨RX11, "isHalf", "(I)Z"⟩
abbrev cX11_isFirstHalf : ByteArray := prog_1_method_30_code
def yX11_isFirstHalf : MethodName := ⟨RX11, "isFirstHalf", "(I)Z"⟩
abbrev cX11_isSecondHalf : ByteArray := prog_1_method_31_code
def yX11_isSecondHalf : MethodName := ⟨RX11, "isSecondHalf", "(I)Z"⟩
abbrev cX11_isSign : ByteArray := prog_1_method_32_code
def yX11_isSign : MethodName := ⟨RX11, "isSign", "(I)Z"⟩
abbrev cX11_isFigure : ByteArray := prog_1_method_33_code
def yX11_isFigure : MethodName := ⟨RX11, "isFigure", "(I)Z"⟩
abbrev cX11_isSmallLetter : ByteArray := prog_1_method_34_code
def yX11_isSmallLetter : MethodName := ⟨RX11, "isSmallLetter", "(I)Z"⟩
abbrev cX11_isGreatLetter : ByteArray := prog_1_method_35_code
def yX11_isGreatLetter : MethodName := ⟨RX11, "isGreatLetter", "(I)Z"⟩
abbrev cX11_isWordSign : ByteArray := prog_1_method_36_code
def yX11_isWordSign : MethodName := ⟨RX11, "isWordSign", "(I)Z"⟩
abbrev cX11_isSpan : ByteArray := prog_1_method_37_code
def yX11_isSpan : MethodName := ⟨RX11, "isSpan", "(II)Z"⟩
def RX12 : String := "PostalLinesModel"
def TX12 : u_T := fun k => match k with
  | 0 => ("PostalLinesModel", "line", "[I", true)
  | 1 => ("PostalLinesModel", "units", "I", false)
  | 2 => ("PostalLinesModel", "foldSign", "[I", true)
  | 3 => ("PostalLinesModel", "foldA", "[I", true)
  | 4 => ("PostalLinesModel", "foldB", "[I", true)
  | 5 => ("PostalLinesModel", "folds", "I", false)
  | 6 => ("PostalLinesModel", "words", "I", false)
  | 7 => ("PostalLinesModel", "wordSize", "[I", true)
  | 8 => ("PostalLinesModel", "wordSign", "[I", true)
  | 9 => ("PostalLinesModel", "wordBreak", "[Z", true)
  | 10 => ("PostalLinesModel", "names", "I", false)
  | 11 => ("PostalLinesModel", "nameWords", "[I", true)
  | 12 => ("PostalLinesModel", "nameSize", "[I", true)
  | 13 => ("PostalLinesModel", "nameSign", "[I", true)
  | 14 => ("PostalLinesModel", "shorts", "I", false)
  | 15 => ("PostalLinesModel", "shortOf", "[I", true)
  | 16 => ("PostalLinesModel", "shortFor", "[I", true)
  | 17 => ("PostalLinesModel", "streets", "I", false)
  | 18 => ("PostalLinesModel", "streetNames", "[I", true)
  | 19 => ("PostalLinesModel", "streetName", "[I", true)
  | 20 => ("PostalLinesModel", "towns", "I", false)
  | 21 => ("PostalLinesModel", "townName", "[I", true)
  | 22 => ("PostalLinesModel", "townLow", "[I", true)
  | 23 => ("PostalLinesModel", "townHigh", "[I", true)
  | 24 => ("PostalLinesModel", "unitWords", "I", false)
  | 25 => ("PostalLinesModel", "unitWord", "[I", true)
  | 26 => ("PostalLinesModel", "ranges", "I", false)
  | 27 => ("PostalLinesModel", "rangeStreet", "[I", true)
  | 28 => ("PostalLinesModel", "rangeLow", "[I", true)
  | 29 => ("PostalLinesModel", "rangeHigh", "[I", true)
  | 30 => ("PostalLinesModel", "rangeSide", "[I", true)
  | 31 => ("PostalLinesModel", "rangeTown", "[I", true)
  | 32 => ("PostalLinesModel", "rangeCarrier", "[I", true)
  | 33 => ("PostalLinesModel", "grammars", "I", false)
  | 34 => ("PostalLinesModel", "grammarParts", "[I", true)
  | 35 => ("PostalLinesModel", "grammarPart", "[I", true)
  | 36 => ("PostalLinesModel", "grammarMust", "[Z", true)
  | 37 => ("PostalLinesModel", "readCost", "I", false)
  | 38 => ("PostalLinesModel", "readWords", "I", false)
  | 39 => ("PostalLinesModel", "readMark", "[I", true)
  | 40 => ("PostalLinesModel", "deliveries", "I", false)
  | 41 => ("PostalLinesModel", "has", "[Z", true)
  | 42 => ("PostalLinesModel", "number", "[I", true)
  | 43 => ("PostalLinesModel", "letter", "[I", true)
  | 44 => ("PostalLinesModel", "street", "[I", true)
  | 45 => ("PostalLinesModel", "unitName", "[I", true)
  | 46 => ("PostalLinesModel", "unitSize", "[I", true)
  | 47 => ("PostalLinesModel", "unitSign", "[I", true)
  | 48 => ("PostalLinesModel", "town", "[I", true)
  | 49 => ("PostalLinesModel", "code", "[I", true)
  | 50 => ("PostalLinesModel", "often", "[I", true)
  | 51 => ("PostalLinesModel", "isBegun", "Z", false)
  | 52 => ("PostalLinesModel", "isBreak", "Z", false)
  | 53 => ("PostalLinesModel", "isLong", "Z", false)
  | 54 => ("PostalLinesModel", "least", "[I", true)
  | 55 => ("PostalLinesModel", "rowNumber", "I", false)
  | 56 => ("PostalLinesModel", "bestCost", "[I", true)
  | 57 => ("PostalLinesModel", "bestTake", "[I", true)
  | 58 => ("PostalLinesModel", "bestMark", "[I", true)
  | 59 => ("PostalLinesModel", "spare", "[I", true)
  | 60 => ("PostalLinesModel", "newHas", "[Z", true)
  | 61 => ("PostalLinesModel", "newest", "[I", true)
  | 62 => ("PostalLinesModel", "written", "[I", true)
  | _ => ("PostalLinesModel", "writtenSize", "I", false)
def tyX12 : Nat → FieldType := fun k => match k with
  | 0 => .array .int
  | 1 => .int
  | 2 => .array .int
  | 3 => .array .int
  | 4 => .array .int
  | 5 => .int
  | 6 => .int
  | 7 => .array .int
  | 8 => .array .int
  | 9 => .array .boolean
  | 10 => .int
  | 11 => .array .int
  | 12 => .array .int
  | 13 => .array .int
  | 14 => .int
  | 15 => .array .int
  | 16 => .array .int
  | 17 => .int
  | 18 => .array .int
  | 19 => .array .int
  | 20 => .int
  | 21 => .array .int
  | 22 => .array .int
  | 23 => .array .int
  | 24 => .int
  | 25 => .array .int
  | 26 => .int
  | 27 => .array .int
  | 28 => .array .int
  | 29 => .array .int
  | 30 => .array .int
  | 31 => .array .int
  | 32 => .array .int
  | 33 => .int
  | 34 => .array .int
  | 35 => .array .int
  | 36 => .array .boolean
  | 37 => .int
  | 38 => .int
  | 39 => .array .int
  | 40 => .int
  | 41 => .array .boolean
  | 42 => .array .int
  | 43 => .array .int
  | 44 => .array .int
  | 45 => .array .int
  | 46 => .array .int
  | 47 => .array .int
  | 48 => .array .int
  | 49 => .array .int
  | 50 => .array .int
  | 51 => .boolean
  | 52 => .boolean
  | 53 => .boolean
  | 54 => .array .int
  | 55 => .int
  | 56 => .array .int
  | 57 => .array .int
  | 58 => .array .int
  | 59 => .array .int
  | 60 => .array .boolean
  | 61 => .array .int
  | 62 => .array .int
  | _ => .int
abbrev wsX120 : List Cond := u_ws RX12 TX12 64
theorem nmX12 : ∀ a, a < 64 → ∀ b, b < 64 → a ≠ b → (TX12 a).2.1 ≠ (TX12 b).2.1 := by decide +kernel
theorem tyX12_ok : ∀ k, k < 64 → parseFieldDescriptor (TX12 k).2.2.1 = some (tyX12 k) := by decide +kernel
abbrev cX12_init : ByteArray := prog_14_method_1_code
def yX12_init : MethodName := ⟨RX12, "<init>", "()V"⟩
abbrev cX12_in : ByteArray := prog_14_method_2_code
def yX12_in : MethodName := ⟨RX12, "in", "(III)Z"⟩
abbrev cX12_feed : ByteArray := prog_14_method_3_code
def yX12_feed : MethodName := ⟨RX12, "feed", "(JI)I"⟩
abbrev cX12_drop : ByteArray := prog_14_method_4_code
def yX12_drop : MethodName := ⟨RX12, "drop", "()I"⟩
abbrev cX12_isSign : ByteArray := prog_14_method_5_code
def yX12_isSign : MethodName := ⟨RX12, "isSign", "(I)Z"⟩
abbrev cX12_foldOf : ByteArray := prog_14_method_6_code
def yX12_foldOf : MethodName := ⟨RX12, "foldOf", "(I)I"⟩
abbrev cX12_fold : ByteArray := prog_14_method_7_code
def yX12_fold : MethodName := ⟨RX12, "fold", "(III)I"⟩
abbrev cX12_isPair : ByteArray := prog_14_method_8_code
def yX12_isPair : MethodName := ⟨RX12, "isPair", "(I)Z"⟩
abbrev cX12_isBroken : ByteArray := prog_14_method_9_code
def yX12_isBroken : MethodName := ⟨RX12, "isBroken", "()Z"⟩
abbrev cX12_take : ByteArray := prog_14_method_10_code
def yX12_take : MethodName := ⟨RX12, "take", "(I)V"⟩
abbrev cX12_takeFolded : ByteArray := prog_14_method_11_code
def yX12_takeFolded : MethodName := ⟨RX12, "takeFolded", "(I)V"⟩
abbrev cX12_taken : ByteArray := prog_14_method_12_code
def yX12_taken : MethodName := ⟨RX12, "taken", "()I"⟩
abbrev cX12_words : ByteArray := prog_14_method_13_code
def yX12_words : MethodName := ⟨RX12, "words", "()I"⟩
abbrev cX12_sign : ByteArray := prog_14_method_14_code
def yX12_sign : MethodName := ⟨RX12, "sign", "(II)I"⟩
abbrev cX12_isName : ByteArray := prog_14_method_15_code
def yX12_isName : MethodName := ⟨RX12, "isName", "(I)Z"⟩
abbrev cX12_isWordOf : ByteArray := prog_14_method_16_code
def yX12_isWordOf : MethodName := ⟨RX12, "isWordOf", "(III)Z"⟩
abbrev cX12_name : ByteArray := prog_14_method_17_code
def yX12_name : MethodName := ⟨RX12, "name", "()I"⟩
abbrev cX12_shorten : ByteArray := prog_14_method_18_code
def yX12_shorten : MethodName := ⟨RX12, "shorten", "(II)I"⟩
abbrev cX12_street : ByteArray := prog_14_method_19_code
def yX12_street : MethodName := ⟨RX12, "street", "(I)I"⟩
abbrev cX12_also : ByteArray := prog_14_method_20_code
def yX12_also : MethodName := ⟨RX12, "also", "(II)I"⟩
abbrev cX12_isSpan : ByteArray := prog_14_method_21_code
def yX12_isSpan : MethodName := ⟨RX12, "isSpan", "(II)Z"⟩
abbrev cX12_town : ByteArray := prog_14_method_22_code
def yX12_town : MethodName := ⟨RX12, "town", "(III)I"⟩
abbrev cX12_unit : ByteArray := prog_14_method_23_code
def yX12_unit : MethodName := ⟨RX12, "unit", "(I)I"⟩
abbrev cX12_range : ByteArray := prog_14_method_24_code
def yX12_range : MethodName := ⟨RX12, "range", "(IIIIII)I"⟩
abbrev cX12_grammar : ByteArray := prog_14_method_25_code
def yX12_grammar : MethodName := ⟨RX12, "grammar", "(III)I"⟩
abbrev cX12_isSlip : ByteArray := prog_14_method_26_code
def yX12_isSlip : MethodName := ⟨RX12, "isSlip", "(III)Z"⟩
abbrev cX12_standsFor : ByteArray := prog_14_method_27_code
def yX12_standsFor : MethodName := ⟨RX12, "standsFor", "(III)I"⟩
abbrev cX12_stepAt : ByteArray := prog_14_method_28_code
def yX12_stepAt : MethodName := ⟨RX12, "stepAt", "(III)V"⟩
abbrev cX12_nameCost : ByteArray := prog_14_method_29_code
def yX12_nameCost : MethodName := ⟨RX12, "nameCost", "(III)I"⟩
abbrev cX12_fitCost : ByteArray := prog_14_method_30_code
def yX12_fitCost : MethodName := ⟨RX12, "fitCost", "(IIII)I"⟩
abbrev cX12_fits : ByteArray := prog_14_method_31_code
def yX12_fits : MethodName := ⟨RX12, "fits", "(II)I"⟩
abbrev cX12_figures : ByteArray := prog_14_method_32_code
def yX12_figures : MethodName := ⟨RX12, "figures", "(I)I"⟩
abbrev cX12_isNumber : ByteArray := prog_14_method_33_code
def yX12_isNumber : MethodName := ⟨RX12, "isNumber", "(I)Z"⟩
abbrev cX12_unitWordAt : ByteArray := prog_14_method_34_code
def yX12_unitWordAt : MethodName := ⟨RX12, "unitWordAt", "(I)I"⟩
abbrev cX12_rowCost : ByteArray := prog_14_method_35_code
def yX12_rowCost : MethodName := ⟨RX12, "rowCost", "(III)I"⟩
abbrev cX12_offer : ByteArray := prog_14_method_36_code
def yX12_offer : MethodName := ⟨RX12, "offer", "(IIIIIII)V"⟩
abbrev cX12_bestAt : ByteArray := prog_14_method_37_code
def yX12_bestAt : MethodName := ⟨RX12, "bestAt", "(III)V"⟩
abbrev cX12_blank : ByteArray := prog_14_method_38_code
def yX12_blank : MethodName := ⟨RX12, "blank", "(I)V"⟩
abbrev cX12_valueOf : ByteArray := prog_14_method_39_code
def yX12_valueOf : MethodName := ⟨RX12, "valueOf", "(I)I"⟩
abbrev cX12_lay : ByteArray := prog_14_method_40_code
def yX12_lay : MethodName := ⟨RX12, "lay", "(IIII)V"⟩
abbrev cX12_isAlike : ByteArray := prog_14_method_41_code
def yX12_isAlike : MethodName := ⟨RX12, "isAlike", "(II)Z"⟩
abbrev cX12_read : ByteArray := prog_14_method_42_code
def yX12_read : MethodName := ⟨RX12, "read", "(I)I"⟩
abbrev cX12_deliver : ByteArray := prog_14_method_43_code
def yX12_deliver : MethodName := ⟨RX12, "deliver", "(I)I"⟩
abbrev cX12_keepNewest : ByteArray := prog_14_method_44_code
def yX12_keepNewest : MethodName := ⟨RX12, "keepNewest", "(I)V"⟩
abbrev cX12_putBack : ByteArray := prog_14_method_45_code
def yX12_putBack : MethodName := ⟨RX12, "putBack", "(II)V"⟩
abbrev cX12_layRows : ByteArray := prog_14_method_46_code
def yX12_layRows : MethodName := ⟨RX12, "layRows", "(II)V"⟩
abbrev cX12_layAll : ByteArray := prog_14_method_47_code
def yX12_layAll : MethodName := ⟨RX12, "layAll", "(I)I"⟩
abbrev cX12_isAlikeNewest : ByteArray := prog_14_method_48_code
def yX12_isAlikeNewest : MethodName := ⟨RX12, "isAlikeNewest", "(I)Z"⟩
abbrev cX12_cost : ByteArray := prog_14_method_49_code
def yX12_cost : MethodName := ⟨RX12, "cost", "()I"⟩
abbrev cX12_mark : ByteArray := prog_14_method_50_code
def yX12_mark : MethodName := ⟨RX12, "mark", "(I)I"⟩
abbrev cX12_isDelivery : ByteArray := prog_14_method_51_code
def yX12_isDelivery : MethodName := ⟨RX12, "isDelivery", "(I)Z"⟩
abbrev cX12_of : ByteArray := prog_14_method_52_code
def yX12_of : MethodName := ⟨RX12, "of", "(II)I"⟩
abbrev cX12_unitSign : ByteArray := prog_14_method_53_code
def yX12_unitSign : MethodName := ⟨RX12, "unitSign", "(II)I"⟩
abbrev cX12_serves : ByteArray := prog_14_method_54_code
def yX12_serves : MethodName := ⟨RX12, "serves", "(II)Z"⟩
abbrev cX12_carrier : ByteArray := prog_14_method_55_code
def yX12_carrier : MethodName := ⟨RX12, "carrier", "(I)I"⟩
abbrev cX12_write : ByteArray := prog_14_method_56_code
def yX12_write : MethodName := ⟨RX12, "write", "(I)V"⟩
abbrev cX12_writeFigures : ByteArray := prog_14_method_57_code
def yX12_writeFigures : MethodName := ⟨RX12, "writeFigures", "(II)V"⟩
abbrev cX12_writeName : ByteArray := prog_14_method_58_code
def yX12_writeName : MethodName := ⟨RX12, "writeName", "(IZ)V"⟩
abbrev cX12_writePart : ByteArray := prog_14_method_59_code
def yX12_writePart : MethodName := ⟨RX12, "writePart", "(II)V"⟩
abbrev cX12_canonical : ByteArray := prog_14_method_60_code
def yX12_canonical : MethodName := ⟨RX12, "canonical", "(I)I"⟩
abbrev cX12_unitAt : ByteArray := prog_14_method_61_code
def yX12_unitAt : MethodName := ⟨RX12, "unitAt", "(I)I"⟩
abbrev cX12_count : ByteArray := prog_14_method_62_code
def yX12_count : MethodName := ⟨RX12, "count", "(I)I"⟩
def RJ9 : String := "java/lang/Math"
def TJ9 : u_T := fun k => match k with
  | _ => ("", "", "", false)
def tyJ9 : Nat → FieldType := fun k => match k with
  | _ => .int
abbrev wsJ90 : List Cond := u_ws RJ9 TJ9 0
theorem nmJ9 : ∀ a, a < 0 → ∀ b, b < 0 → a ≠ b → (TJ9 a).2.1 ≠ (TJ9 b).2.1 := by decide +kernel
theorem tyJ9_ok : ∀ k, k < 0 → parseFieldDescriptor (TJ9 k).2.2.1 = some (tyJ9 k) := by decide +kernel
abbrev cJ9_max_7cf53 : ByteArray := prog_15_method_65_code
def yJ9_max_7cf53 : MethodName := ⟨RJ9, "max", "(II)I"⟩
abbrev cJ9_min_7cf53 : ByteArray := prog_15_method_69_code
def yJ9_min_7cf53 : MethodName := ⟨RJ9, "min", "(II)I"⟩
abbrev cJ9_min_f86c9 : ByteArray := prog_15_method_70_code
def yJ9_min_f86c9 : MethodName := ⟨RJ9, "min", "(JJ)J"⟩
def RJ7 : String := "java/util/Arrays"
def TJ7 : u_T := fun k => match k with
  | _ => ("", "", "", false)
def tyJ7 : Nat → FieldType := fun k => match k with
  | _ => .int
abbrev wsJ70 : List Cond := u_ws RJ7 TJ7 0
theorem nmJ7 : ∀ a, a < 0 → ∀ b, b < 0 → a ≠ b → (TJ7 a).2.1 ≠ (TJ7 b).2.1 := by decide +kernel
theorem tyJ7_ok : ∀ k, k < 0 → parseFieldDescriptor (TJ7 k).2.2.1 = some (tyJ7 k) := by decide +kernel
abbrev cJ7_fill_53178 : ByteArray := prog_16_method_103_code
def yJ7_fill_53178 : MethodName := ⟨RJ7, "fill", "([II)V"⟩
def RL : String := "PostalLinesLaw"
abbrev cL_law : ByteArray := code
def yL_law : MethodName := ⟨RL, "law", "([I)Z"⟩
abbrev vwCl : List vw_C := [(RX0, TX0, 10), (RX1, TX1, 3), (RX2, TX2, 5), (RX3, TX3, 4), (RX4, TX4, 4), (RX5, TX5, 2), (RX6, TX6, 17), (RX7, TX7, 12), (RX8, TX8, 2), (RX9, TX9, 5), (RX10, TX10, 9), (RX11, TX11, 11), (RX12, TX12, 64)]
/-! the layout of the cells -/
def a_ds (k : Nat) : Nat × Nat := bif Nat.ble k 103 then (bif Nat.ble k 51 then (bif Nat.ble k 25 then (bif Nat.ble k 12 then (bif Nat.ble k 5 then (bif Nat.ble k 2 then (bif Nat.ble k 0 then ((0, 11)) else (bif Nat.ble k 1 then ((0, 5)) else ((1, 120)))) else (bif Nat.ble k 3 then ((0, 3)) else (bif Nat.ble k 4 then ((1, 30)) else ((1, 30))))) else (bif Nat.ble k 8 then (bif Nat.ble k 6 then ((1, 30)) else (bif Nat.ble k 7 then ((0, 10)) else ((1, 224)))) else (bif Nat.ble k 10 then (bif Nat.ble k 9 then ((1, 14)) else ((1, 14))) else (bif Nat.ble k 11 then ((1, 14)) else ((0, 0)))))) else (bif Nat.ble k 18 then (bif Nat.ble k 15 then (bif Nat.ble k 13 then ((1, 3840)) else (bif Nat.ble k 14 then ((1, 240)) else ((1, 240)))) else (bif Nat.ble k 16 then ((1, 60)) else (bif Nat.ble k 17 then ((1, 30)) else ((1, 30))))) else (bif Nat.ble k 21 then (bif Nat.ble k 19 then ((1, 4)) else (bif Nat.ble k 20 then ((0, 6)) else ((1, 120)))) else (bif Nat.ble k 23 then (bif Nat.ble k 22 then ((1, 30)) else ((1, 20))) else (bif Nat.ble k 24 then ((1, 20)) else ((1, 20))))))) else (bif Nat.ble k 38 then (bif Nat.ble k 31 then (bif Nat.ble k 28 then (bif Nat.ble k 26 then ((1, 10)) else (bif Nat.ble k 27 then ((1, 10)) else ((1, 60)))) else (bif Nat.ble k 29 then ((1, 60)) else (bif Nat.ble k 30 then ((1, 60)) else ((1, 60))))) else (bif Nat.ble k 34 then (bif Nat.ble k 32 then ((1, 60)) else (bif Nat.ble k 33 then ((1, 60)) else ((0, 4)))) else (bif Nat.ble k 36 then (bif Nat.ble k 35 then ((1, 8)) else ((1, 8))) else (bif Nat.ble k 37 then ((1, 8)) else ((0, 1)))))) else (bif Nat.ble k 44 then (bif Nat.ble k 41 then (bif Nat.ble k 39 then ((1, 680)) else (bif Nat.ble k 40 then ((1, 17)) else ((0, 2)))) else (bif Nat.ble k 42 then ((1, 14)) else (bif Nat.ble k 43 then ((1, 3360)) else ((1, 25))))) else (bif Nat.ble k 47 then (bif Nat.ble k 45 then ((0, 7)) else (bif Nat.ble k 46 then ((0, 8)) else ((1, 56)))) else (bif Nat.ble k 49 then (bif Nat.ble k 48 then ((1, 56)) else ((0, 8))) else (bif Nat.ble k 50 then ((1, 56)) else ((1, 56)))))))) else (bif Nat.ble k 77 then (bif Nat.ble k 64 then (bif Nat.ble k 57 then (bif Nat.ble k 54 then (bif Nat.ble k 52 then ((1, 14)) else (bif Nat.ble k 53 then ((3, 90)) else ((0, 9)))) else (bif Nat.ble k 55 then ((1, 120)) else (bif Nat.ble k 56 then ((0, 12)) else ((1, 120))))) else (bif Nat.ble k 60 then (bif Nat.ble k 58 then ((1, 30)) else (bif Nat.ble k 59 then ((1, 30)) else ((1, 30)))) else (bif Nat.ble k 62 then (bif Nat.ble k 61 then ((1, 14)) else ((1, 224))) else (bif Nat.ble k 63 then ((2, 14)) else ((1, 60)))))) else (bif Nat.ble k 70 then (bif Nat.ble k 67 then (bif Nat.ble k 65 then ((1, 240)) else (bif Nat.ble k 66 then ((1, 3840)) else ((1, 30)))) else (bif Nat.ble k 68 then ((1, 30)) else (bif Nat.ble k 69 then ((1, 30)) else ((1, 120))))) else (bif Nat.ble k 73 then (bif Nat.ble k 71 then ((1, 20)) else (bif Nat.ble k 72 then ((1, 20)) else ((1, 20)))) else (bif Nat.ble k 75 then (bif Nat.ble k 74 then ((1, 10)) else ((1, 60))) else (bif Nat.ble k 76 then ((1, 60)) else ((1, 60))))))) else (bif Nat.ble k 90 then (bif Nat.ble k 83 then (bif Nat.ble k 80 then (bif Nat.ble k 78 then ((1, 60)) else (bif Nat.ble k 79 then ((1, 60)) else ((1, 60)))) else (bif Nat.ble k 81 then ((1, 8)) else (bif Nat.ble k 82 then ((1, 40)) else ((2, 40))))) else (bif Nat.ble k 86 then (bif Nat.ble k 84 then ((1, 14)) else (bif Nat.ble k 85 then ((2, 200)) else ((1, 40)))) else (bif Nat.ble k 88 then (bif Nat.ble k 87 then ((1, 40)) else ((1, 40))) else (bif Nat.ble k 89 then ((1, 40)) else ((1, 40)))))) else (bif Nat.ble k 96 then (bif Nat.ble k 93 then (bif Nat.ble k 91 then ((1, 160)) else (bif Nat.ble k 92 then ((1, 40)) else ((1, 40)))) else (bif Nat.ble k 94 then ((1, 40)) else (bif Nat.ble k 95 then ((1, 75)) else ((1, 90))))) else (bif Nat.ble k 99 then (bif Nat.ble k 97 then ((1, 90)) else (bif Nat.ble k 98 then ((1, 1260)) else ((1, 4)))) else (bif Nat.ble k 101 then (bif Nat.ble k 100 then ((2, 5)) else ((1, 7))) else (bif Nat.ble k 102 then ((1, 400)) else ((4, 0))))))))) else (9, 0)
def a_nf (c : Nat) : Nat := bif Nat.ble c 12 then (bif Nat.ble c 5 then (bif Nat.ble c 2 then (bif Nat.ble c 0 then (10) else (bif Nat.ble c 1 then (3) else (5))) else (bif Nat.ble c 3 then (4) else (bif Nat.ble c 4 then (4) else (2)))) else (bif Nat.ble c 8 then (bif Nat.ble c 6 then (17) else (bif Nat.ble c 7 then (12) else (2))) else (bif Nat.ble c 10 then (bif Nat.ble c 9 then (5) else (9)) else (bif Nat.ble c 11 then (11) else (64))))) else 0
def a_fk0 (j : Nat) : Nat := bif Nat.ble j 9 then (bif Nat.ble j 4 then (bif Nat.ble j 1 then (bif Nat.ble j 0 then (3) else (3)) else (bif Nat.ble j 2 then (3) else (bif Nat.ble j 3 then (3) else (3)))) else (bif Nat.ble j 6 then (bif Nat.ble j 5 then (3) else (3)) else (bif Nat.ble j 7 then (0) else (bif Nat.ble j 8 then (0) else (0))))) else 9
def a_fk1 (j : Nat) : Nat := bif Nat.ble j 2 then (bif Nat.ble j 0 then (3) else (bif Nat.ble j 1 then (3) else (0))) else 9
def a_fk2 (j : Nat) : Nat := bif Nat.ble j 4 then (bif Nat.ble j 1 then (bif Nat.ble j 0 then (3) else (3)) else (bif Nat.ble j 2 then (3) else (bif Nat.ble j 3 then (3) else (3)))) else 9
def a_fk3 (j : Nat) : Nat := bif Nat.ble j 3 then (bif Nat.ble j 1 then (bif Nat.ble j 0 then (3) else (3)) else (bif Nat.ble j 2 then (3) else (0))) else 9
def a_fk4 (j : Nat) : Nat := bif Nat.ble j 3 then (bif Nat.ble j 1 then (bif Nat.ble j 0 then (3) else (3)) else (bif Nat.ble j 2 then (3) else (0))) else 9
def a_fk5 (j : Nat) : Nat := bif Nat.ble j 1 then (bif Nat.ble j 0 then (3) else (0)) else 9
def a_fk6 (j : Nat) : Nat := bif Nat.ble j 16 then (bif Nat.ble j 7 then (bif Nat.ble j 3 then (bif Nat.ble j 1 then (bif Nat.ble j 0 then (3) else (3)) else (bif Nat.ble j 2 then (3) else (3))) else (bif Nat.ble j 5 then (bif Nat.ble j 4 then (3) else (3)) else (bif Nat.ble j 6 then (3) else (3)))) else (bif Nat.ble j 11 then (bif Nat.ble j 9 then (bif Nat.ble j 8 then (3) else (3)) else (bif Nat.ble j 10 then (3) else (3))) else (bif Nat.ble j 13 then (bif Nat.ble j 12 then (3) else (0)) else (bif Nat.ble j 14 then (0) else (bif Nat.ble j 15 then (0) else (0)))))) else 9
def a_fk7 (j : Nat) : Nat := bif Nat.ble j 11 then (bif Nat.ble j 5 then (bif Nat.ble j 2 then (bif Nat.ble j 0 then (3) else (bif Nat.ble j 1 then (3) else (3))) else (bif Nat.ble j 3 then (3) else (bif Nat.ble j 4 then (3) else (3)))) else (bif Nat.ble j 8 then (bif Nat.ble j 6 then (3) else (bif Nat.ble j 7 then (3) else (3))) else (bif Nat.ble j 9 then (1) else (bif Nat.ble j 10 then (1) else (0))))) else 9
def a_fk8 (j : Nat) : Nat := bif Nat.ble j 1 then (bif Nat.ble j 0 then (3) else (3)) else 9
def a_fk9 (j : Nat) : Nat := bif Nat.ble j 4 then (bif Nat.ble j 1 then (bif Nat.ble j 0 then (3) else (3)) else (bif Nat.ble j 2 then (3) else (bif Nat.ble j 3 then (3) else (0)))) else 9
def a_fk10 (j : Nat) : Nat := bif Nat.ble j 8 then (bif Nat.ble j 3 then (bif Nat.ble j 1 then (bif Nat.ble j 0 then (3) else (3)) else (bif Nat.ble j 2 then (3) else (3))) else (bif Nat.ble j 5 then (bif Nat.ble j 4 then (0) else (2)) else (bif Nat.ble j 6 then (2) else (bif Nat.ble j 7 then (2) else (2))))) else 9
def a_fk11 (j : Nat) : Nat := bif Nat.ble j 10 then (bif Nat.ble j 4 then (bif Nat.ble j 1 then (bif Nat.ble j 0 then (3) else (3)) else (bif Nat.ble j 2 then (3) else (bif Nat.ble j 3 then (3) else (3)))) else (bif Nat.ble j 7 then (bif Nat.ble j 5 then (3) else (bif Nat.ble j 6 then (3) else (3))) else (bif Nat.ble j 8 then (3) else (bif Nat.ble j 9 then (3) else (2))))) else 9
def a_fk12 (j : Nat) : Nat := bif Nat.ble j 63 then (bif Nat.ble j 31 then (bif Nat.ble j 15 then (bif Nat.ble j 7 then (bif Nat.ble j 3 then (bif Nat.ble j 1 then (bif Nat.ble j 0 then (3) else (0)) else (bif Nat.ble j 2 then (3) else (3))) else (bif Nat.ble j 5 then (bif Nat.ble j 4 then (3) else (0)) else (bif Nat.ble j 6 then (0) else (3)))) else (bif Nat.ble j 11 then (bif Nat.ble j 9 then (bif Nat.ble j 8 then (3) else (3)) else (bif Nat.ble j 10 then (0) else (3))) else (bif Nat.ble j 13 then (bif Nat.ble j 12 then (3) else (3)) else (bif Nat.ble j 14 then (0) else (3))))) else (bif Nat.ble j 23 then (bif Nat.ble j 19 then (bif Nat.ble j 17 then (bif Nat.ble j 16 then (3) else (0)) else (bif Nat.ble j 18 then (3) else (3))) else (bif Nat.ble j 21 then (bif Nat.ble j 20 then (0) else (3)) else (bif Nat.ble j 22 then (3) else (3)))) else (bif Nat.ble j 27 then (bif Nat.ble j 25 then (bif Nat.ble j 24 then (0) else (3)) else (bif Nat.ble j 26 then (0) else (3))) else (bif Nat.ble j 29 then (bif Nat.ble j 28 then (3) else (3)) else (bif Nat.ble j 30 then (3) else (3)))))) else (bif Nat.ble j 47 then (bif Nat.ble j 39 then (bif Nat.ble j 35 then (bif Nat.ble j 33 then (bif Nat.ble j 32 then (3) else (0)) else (bif Nat.ble j 34 then (3) else (3))) else (bif Nat.ble j 37 then (bif Nat.ble j 36 then (3) else (0)) else (bif Nat.ble j 38 then (0) else (3)))) else (bif Nat.ble j 43 then (bif Nat.ble j 41 then (bif Nat.ble j 40 then (0) else (3)) else (bif Nat.ble j 42 then (3) else (3))) else (bif Nat.ble j 45 then (bif Nat.ble j 44 then (3) else (3)) else (bif Nat.ble j 46 then (3) else (3))))) else (bif Nat.ble j 55 then (bif Nat.ble j 51 then (bif Nat.ble j 49 then (bif Nat.ble j 48 then (3) else (3)) else (bif Nat.ble j 50 then (3) else (2))) else (bif Nat.ble j 53 then (bif Nat.ble j 52 then (2) else (2)) else (bif Nat.ble j 54 then (3) else (0)))) else (bif Nat.ble j 59 then (bif Nat.ble j 57 then (bif Nat.ble j 56 then (3) else (3)) else (bif Nat.ble j 58 then (3) else (3))) else (bif Nat.ble j 61 then (bif Nat.ble j 60 then (3) else (3)) else (bif Nat.ble j 62 then (3) else (0))))))) else 9
def a_fk (c j : Nat) : Nat := bif Nat.ble c 12 then (bif Nat.ble c 5 then (bif Nat.ble c 2 then (bif Nat.ble c 0 then (a_fk0 j) else (bif Nat.ble c 1 then (a_fk1 j) else (a_fk2 j))) else (bif Nat.ble c 3 then (a_fk3 j) else (bif Nat.ble c 4 then (a_fk4 j) else (a_fk5 j)))) else (bif Nat.ble c 8 then (bif Nat.ble c 6 then (a_fk6 j) else (bif Nat.ble c 7 then (a_fk7 j) else (a_fk8 j))) else (bif Nat.ble c 10 then (bif Nat.ble c 9 then (a_fk9 j) else (a_fk10 j)) else (bif Nat.ble c 11 then (a_fk11 j) else (a_fk12 j))))) else 9
def a_rf0 (j : Nat) : Nat := bif Nat.ble j 10 then (bif Nat.ble j 4 then (bif Nat.ble j 1 then (bif Nat.ble j 0 then (1) else (3)) else (bif Nat.ble j 2 then (7) else (bif Nat.ble j 3 then (12) else (20)))) else (bif Nat.ble j 7 then (bif Nat.ble j 5 then (34) else (bif Nat.ble j 6 then (41) else (45))) else (bif Nat.ble j 8 then (38) else (bif Nat.ble j 9 then (54) else (0))))) else 0
def a_rf1 (j : Nat) : Nat := bif Nat.ble j 1 then (bif Nat.ble j 0 then (2) else (0)) else 0
def a_rf3 (j : Nat) : Nat := bif Nat.ble j 3 then (bif Nat.ble j 1 then (bif Nat.ble j 0 then (4) else (5)) else (bif Nat.ble j 2 then (6) else (0))) else 0
def a_rf7 (j : Nat) : Nat := bif Nat.ble j 8 then (bif Nat.ble j 3 then (bif Nat.ble j 1 then (bif Nat.ble j 0 then (8) else (9)) else (bif Nat.ble j 2 then (10) else (11))) else (bif Nat.ble j 5 then (bif Nat.ble j 4 then (0) else (0)) else (bif Nat.ble j 6 then (0) else (bif Nat.ble j 7 then (0) else (0))))) else 0
def a_rf12 (j : Nat) : Nat := bif Nat.ble j 9 then (bif Nat.ble j 4 then (bif Nat.ble j 1 then (bif Nat.ble j 0 then (13) else (14)) else (bif Nat.ble j 2 then (15) else (bif Nat.ble j 3 then (16) else (17)))) else (bif Nat.ble j 6 then (bif Nat.ble j 5 then (18) else (19)) else (bif Nat.ble j 7 then (0) else (bif Nat.ble j 8 then (0) else (0))))) else 0
def a_rf20 (j : Nat) : Nat := bif Nat.ble j 16 then (bif Nat.ble j 7 then (bif Nat.ble j 3 then (bif Nat.ble j 1 then (bif Nat.ble j 0 then (21) else (22)) else (bif Nat.ble j 2 then (23) else (24))) else (bif Nat.ble j 5 then (bif Nat.ble j 4 then (25) else (26)) else (bif Nat.ble j 6 then (27) else (28)))) else (bif Nat.ble j 11 then (bif Nat.ble j 9 then (bif Nat.ble j 8 then (29) else (30)) else (bif Nat.ble j 10 then (31) else (32))) else (bif Nat.ble j 13 then (bif Nat.ble j 12 then (33) else (0)) else (bif Nat.ble j 14 then (0) else (bif Nat.ble j 15 then (0) else (0)))))) else 0
def a_rf34 (j : Nat) : Nat := bif Nat.ble j 3 then (bif Nat.ble j 1 then (bif Nat.ble j 0 then (35) else (36)) else (bif Nat.ble j 2 then (37) else (0))) else 0
def a_rf38 (j : Nat) : Nat := bif Nat.ble j 2 then (bif Nat.ble j 0 then (39) else (bif Nat.ble j 1 then (40) else (0))) else 0
def a_rf41 (j : Nat) : Nat := bif Nat.ble j 4 then (bif Nat.ble j 1 then (bif Nat.ble j 0 then (12) else (7)) else (bif Nat.ble j 2 then (42) else (bif Nat.ble j 3 then (43) else (44)))) else 0
def a_rf45 (j : Nat) : Nat := bif Nat.ble j 11 then (bif Nat.ble j 5 then (bif Nat.ble j 2 then (bif Nat.ble j 0 then (7) else (bif Nat.ble j 1 then (20) else (34))) else (bif Nat.ble j 3 then (41) else (bif Nat.ble j 4 then (38) else (46)))) else (bif Nat.ble j 8 then (bif Nat.ble j 6 then (49) else (bif Nat.ble j 7 then (52) else (53))) else (bif Nat.ble j 9 then (0) else (bif Nat.ble j 10 then (0) else (0))))) else 0
def a_rf46 (j : Nat) : Nat := bif Nat.ble j 1 then (bif Nat.ble j 0 then (47) else (48)) else 0
def a_rf49 (j : Nat) : Nat := bif Nat.ble j 1 then (bif Nat.ble j 0 then (50) else (51)) else 0
def a_rf54 (j : Nat) : Nat := bif Nat.ble j 4 then (bif Nat.ble j 1 then (bif Nat.ble j 0 then (12) else (20)) else (bif Nat.ble j 2 then (38) else (bif Nat.ble j 3 then (55) else (0)))) else 0
def a_rf56 (j : Nat) : Nat := bif Nat.ble j 63 then (bif Nat.ble j 31 then (bif Nat.ble j 15 then (bif Nat.ble j 7 then (bif Nat.ble j 3 then (bif Nat.ble j 1 then (bif Nat.ble j 0 then (57) else (0)) else (bif Nat.ble j 2 then (58) else (59))) else (bif Nat.ble j 5 then (bif Nat.ble j 4 then (60) else (0)) else (bif Nat.ble j 6 then (0) else (61)))) else (bif Nat.ble j 11 then (bif Nat.ble j 9 then (bif Nat.ble j 8 then (62) else (63)) else (bif Nat.ble j 10 then (0) else (64))) else (bif Nat.ble j 13 then (bif Nat.ble j 12 then (65) else (66)) else (bif Nat.ble j 14 then (0) else (67))))) else (bif Nat.ble j 23 then (bif Nat.ble j 19 then (bif Nat.ble j 17 then (bif Nat.ble j 16 then (68) else (0)) else (bif Nat.ble j 18 then (69) else (70))) else (bif Nat.ble j 21 then (bif Nat.ble j 20 then (0) else (71)) else (bif Nat.ble j 22 then (72) else (73)))) else (bif Nat.ble j 27 then (bif Nat.ble j 25 then (bif Nat.ble j 24 then (0) else (74)) else (bif Nat.ble j 26 then (0) else (75))) else (bif Nat.ble j 29 then (bif Nat.ble j 28 then (76) else (77)) else (bif Nat.ble j 30 then (78) else (79)))))) else (bif Nat.ble j 47 then (bif Nat.ble j 39 then (bif Nat.ble j 35 then (bif Nat.ble j 33 then (bif Nat.ble j 32 then (80) else (0)) else (bif Nat.ble j 34 then (81) else (82))) else (bif Nat.ble j 37 then (bif Nat.ble j 36 then (83) else (0)) else (bif Nat.ble j 38 then (0) else (84)))) else (bif Nat.ble j 43 then (bif Nat.ble j 41 then (bif Nat.ble j 40 then (0) else (85)) else (bif Nat.ble j 42 then (86) else (87))) else (bif Nat.ble j 45 then (bif Nat.ble j 44 then (88) else (89)) else (bif Nat.ble j 46 then (90) else (91))))) else (bif Nat.ble j 55 then (bif Nat.ble j 51 then (bif Nat.ble j 49 then (bif Nat.ble j 48 then (92) else (93)) else (bif Nat.ble j 50 then (94) else (0))) else (bif Nat.ble j 53 then (bif Nat.ble j 52 then (0) else (0)) else (bif Nat.ble j 54 then (95) else (0)))) else (bif Nat.ble j 59 then (bif Nat.ble j 57 then (bif Nat.ble j 56 then (96) else (97)) else (bif Nat.ble j 58 then (98) else (99))) else (bif Nat.ble j 61 then (bif Nat.ble j 60 then (100) else (101)) else (bif Nat.ble j 62 then (102) else (0))))))) else 0
def a_rf (k j : Nat) : Nat := bif Nat.ble k 34 then (bif Nat.ble k 3 then (bif Nat.ble k 0 then (bif Nat.beq k 0 then a_rf0 j else 0) else (bif Nat.ble k 1 then (bif Nat.beq k 1 then a_rf1 j else 0) else (bif Nat.beq k 3 then a_rf3 j else 0))) else (bif Nat.ble k 12 then (bif Nat.ble k 7 then (bif Nat.beq k 7 then a_rf7 j else 0) else (bif Nat.beq k 12 then a_rf12 j else 0)) else (bif Nat.ble k 20 then (bif Nat.beq k 20 then a_rf20 j else 0) else (bif Nat.beq k 34 then a_rf34 j else 0)))) else (bif Nat.ble k 45 then (bif Nat.ble k 38 then (bif Nat.beq k 38 then a_rf38 j else 0) else (bif Nat.ble k 41 then (bif Nat.beq k 41 then a_rf41 j else 0) else (bif Nat.beq k 45 then a_rf45 j else 0))) else (bif Nat.ble k 49 then (bif Nat.ble k 46 then (bif Nat.beq k 46 then a_rf46 j else 0) else (bif Nat.beq k 49 then a_rf49 j else 0)) else (bif Nat.ble k 54 then (bif Nat.beq k 54 then a_rf54 j else 0) else (bif Nat.beq k 56 then a_rf56 j else 0))))
end
section
/-! ===== a small machine over the cells of both objects: its states are numbers, its steps are those of the bytecode ===== -/
abbrev a_M : Type := (Nat → Nat → Int32) × (Nat → Nat → Int64)
abbrev a_O : Type := Option Value × a_M
abbrev a_F : Type := List Value → a_M → Option a_O
abbrev a_E : Type := Instr × Nat × Nat × Nat × Int32 × Int64 × List (Int32 × Nat) × List Bool
abbrev a_K : Type := Nat → List Value → List Value → a_M → Option a_O
abbrev a_C : Type := Nat → Option (Nat × Nat × a_F)
abbrev a_Sc : Type := Option (Nat × (Nat → Int32))
def a_wi (S : a_M) (k i : Nat) (v : Int32) : a_M := (fun a => if a = k then upd (S.1 k) i v else S.1 a, S.2)
def a_wl (S : a_M) (k i : Nat) (v : Int64) : a_M := (S.1, fun a => if a = k then vp_updL (S.2 k) i v else S.2 a)
def a_e0 (i : Instr) (len : Nat) : a_E := (i, len, 0, 0, 0, 0, [], [])
def a_ex (i : Instr) (len x : Nat) : a_E := (i, len, x, 0, 0, 0, [], [])
def a_exy (i : Instr) (len x y : Nat) : a_E := (i, len, x, y, 0, 0, [], [])
def a_ev0 (i : Instr) (len : Nat) (v : Int32) : a_E := (i, len, 0, 0, v, 0, [], [])
def a_exv (i : Instr) (len x : Nat) (v : Int32) : a_E := (i, len, x, 0, v, 0, [], [])
def a_ew (i : Instr) (len : Nat) (w : Int64) : a_E := (i, len, 0, 0, 0, w, [], [])
def a_esw (i : Instr) (len x : Nat) (l : List (Int32 × Nat)) : a_E := (i, len, x, 0, 0, 0, l, [])
def a_msk (e : a_E) (m : List Bool) : a_E := (e.1, e.2.1, e.2.2.1, e.2.2.2.1, e.2.2.2.2.1, e.2.2.2.2.2.1, e.2.2.2.2.2.2.1, m)
def a_lk (L : List Value) (k : Nat) : Value := L.getD k .null
def a_isl : Value → Bool
  | .long _ => true
  | .double _ => true
  | _ => false
def a_kill (L : List Value) : Nat → List Value
  | 0 => L
  | j + 1 => bif a_isl (L.getD j .null) then L.set j .null else L
def a_s1 (L : List Value) (k : Nat) (v : Value) : List Value := (a_kill L k).set k v
def a_s2 (L : List Value) (k : Nat) (v : Value) : List Value := ((a_kill L k).set k v).set (k + 1) .null
def a_cats : List Value → Nat
  | [] => 0
  | v :: l => (bif a_isl v then 2 else 1) + a_cats l
def a_mk : List Bool → List Value → List Value
  | [], L => L
  | b :: m, L => match L with
    | [] => []
    | v :: l => (bif b then v else .null) :: (match m with | [] => l.map (fun _ => .null) | _ => a_mk m l)
def a_if (c : Jvm.ClassFile.Cond) (a b : Int32) (A B : Option a_O) : Option a_O := match c with
  | .eq => if a = b then A else B
  | .ne => if a = b then B else A
  | .lt => if a < b then A else B
  | .ge => if a < b then B else A
  | .gt => if b < a then A else B
  | .le => if b < a then B else A
def a_swi (a : Int32) (T : Nat → Option a_O) (d : Nat) : List (Int32 × Nat) → Option a_O
  | [] => T d
  | (c, t) :: l => if a = c then T t else a_swi a T d l
def a_rv (i : Instr) (y : Nat) (st : List Value) : Option (Option Value) := match i with
  | .ireturn => match st with
    | [.int v] => bif Nat.beq y 0 then some (some (.int v)) else (if v = 0 ∨ v = 1 then some (some (.int v)) else none)
    | _ => none
  | .lreturn => match st with
    | [.long v] => some (some (.long v))
    | _ => none
  | .areturn => match st with
    | [.ref v] => some (some (.ref v))
    | _ => none
  | .return_ => match st with
    | [] => some none
    | _ => none
  | _ => none
def a_gf (S : a_M) (k x y : Nat) : Option Value := match a_ds k with
  | (0, ci) => bif Nat.beq ci x then (match a_fk x y with
    | 0 => some (.int (S.1 k y))
    | 1 => some (.long (S.2 k y))
    | 2 => some (.int (S.1 k y))
    | 3 => some (.ref (a_rf k y))
    | _ => none) else none
  | _ => none
def a_pf (S : a_M) (k x y : Nat) (v : Value) (A : a_M → Option a_O) : Option a_O := match a_ds k with
  | (0, ci) => bif Nat.beq ci x then (match a_fk x y, v with
    | 0, .int a => A (a_wi S k y a)
    | 1, .long a => A (a_wl S k y a)
    | 2, .int a => if a = 0 ∨ a = 1 then A (a_wi S k y a) else none
    | _, _ => none) else none
  | _ => none
def a_ald (sc : a_Sc) (S : a_M) (k : Nat) (i : Int32) (A : Int32 → Option a_O) : Option a_O := match a_ds k with
  | (1, n) => if i < 0 ∨ n ≤ i.toNatClampNeg then none else A (S.1 k i.toNatClampNeg)
  | (4, _) => (match sc with
    | some (n, f) => if i < 0 ∨ n ≤ i.toNatClampNeg then none else A (f i.toNatClampNeg)
    | none => none)
  | _ => none
def a_zld (S : a_M) (k : Nat) (i : Int32) (A : Int32 → Option a_O) : Option a_O := match a_ds k with
  | (2, n) => if i < 0 ∨ n ≤ i.toNatClampNeg then none else A (S.1 k i.toNatClampNeg)
  | _ => none
def a_lld (S : a_M) (k : Nat) (i : Int32) (A : Int64 → Option a_O) : Option a_O := match a_ds k with
  | (3, n) => if i < 0 ∨ n ≤ i.toNatClampNeg then none else A (S.2 k i.toNatClampNeg)
  | _ => none
def a_ast (S : a_M) (k : Nat) (i v : Int32) (A : a_M → Option a_O) : Option a_O := match a_ds k with
  | (1, n) => if i < 0 ∨ n ≤ i.toNatClampNeg then none else A (a_wi S k i.toNatClampNeg v)
  | _ => none
def a_zst (S : a_M) (k : Nat) (i v : Int32) (A : a_M → Option a_O) : Option a_O := match a_ds k with
  | (2, n) => if i < 0 ∨ n ≤ i.toNatClampNeg then none else A (a_wi S k i.toNatClampNeg (vp_nar .boolean v))
  | _ => none
def a_lst (S : a_M) (k : Nat) (i : Int32) (v : Int64) (A : a_M → Option a_O) : Option a_O := match a_ds k with
  | (3, n) => if i < 0 ∨ n ≤ i.toNatClampNeg then none else A (a_wl S k i.toNatClampNeg v)
  | _ => none
def a_len (sc : a_Sc) (k : Nat) : Option Int32 := match a_ds k with
  | (1, n) => some (Int32.ofNat n)
  | (2, n) => some (Int32.ofNat n)
  | (3, n) => some (Int32.ofNat n)
  | (4, _) => (match sc with
    | some (n, _) => some (Int32.ofNat n)
    | none => none)
  | _ => none
def a_call (cb : a_C) (idx : Nat) (st : List Value) (S : a_M) (A : List Value → a_M → Option a_O) : Option a_O := match cb idx with
  | some (_, na, f) => bif Nat.ble na st.length && Nat.ble (a_cats (st.drop na)) 8 then (f (st.take na).reverse S).bind (fun q => A (q.1.toList ++ st.drop na) q.2) else none
  | none => none
/-- one step: K goes on in the line, KC behind a call -/
def a_stp (sc : a_Sc) (cb : a_C) (K KC : a_K) (e : a_E) (pc : Nat) (L st : List Value) (S : a_M) : Option a_O := match e with
  | (i, len, x, y, v, w, sw, _) => match i with
  | .iconst _ => K (pc + len) L (.int v :: st) S
  | .bipush _ => K (pc + len) L (.int v :: st) S
  | .sipush _ => K (pc + len) L (.int v :: st) S
  | .ldc _ => K (pc + len) L (.int v :: st) S
  | .ldc_w _ => K (pc + len) L (.int v :: st) S
  | .lconst _ => K (pc + len) L (.long w :: st) S
  | .ldc2_w _ => K (pc + len) L (.long w :: st) S
  | .iload _ => match a_lk L x with | .int a => K (pc + len) L (.int a :: st) S | _ => none
  | .iload_n _ => match a_lk L x with | .int a => K (pc + len) L (.int a :: st) S | _ => none
  | .lload _ => match a_lk L x with | .long a => K (pc + len) L (.long a :: st) S | _ => none
  | .lload_n _ => match a_lk L x with | .long a => K (pc + len) L (.long a :: st) S | _ => none
  | .aload _ => match a_lk L x with | .ref a => K (pc + len) L (.ref a :: st) S | _ => none
  | .aload_n _ => match a_lk L x with | .ref a => K (pc + len) L (.ref a :: st) S | _ => none
  | .istore _ => match st with | .int a :: r => K (pc + len) (a_s1 L x (.int a)) r S | _ => none
  | .istore_n _ => match st with | .int a :: r => K (pc + len) (a_s1 L x (.int a)) r S | _ => none
  | .lstore _ => match st with | .long a :: r => K (pc + len) (a_s2 L x (.long a)) r S | _ => none
  | .lstore_n _ => match st with | .long a :: r => K (pc + len) (a_s2 L x (.long a)) r S | _ => none
  | .astore _ => match st with | .ref a :: r => K (pc + len) (a_s1 L x (.ref a)) r S | _ => none
  | .astore_n _ => match st with | .ref a :: r => K (pc + len) (a_s1 L x (.ref a)) r S | _ => none
  | .iinc _ _ => match a_lk L x with | .int a => K (pc + len) (a_s1 L x (.int (a + v))) st S | _ => none
  | .iadd => match st with | .int b :: .int a :: r => K (pc + len) L (.int (a + b) :: r) S | _ => none
  | .isub => match st with | .int b :: .int a :: r => K (pc + len) L (.int (a - b) :: r) S | _ => none
  | .imul => match st with | .int b :: .int a :: r => K (pc + len) L (.int (a * b) :: r) S | _ => none
  | .iand => match st with | .int b :: .int a :: r => K (pc + len) L (.int (a &&& b) :: r) S | _ => none
  | .ior => match st with | .int b :: .int a :: r => K (pc + len) L (.int (a ||| b) :: r) S | _ => none
  | .idiv => match st with | .int b :: .int a :: r => if b = 0 then none else K (pc + len) L (.int (a / b) :: r) S | _ => none
  | .irem => match st with | .int b :: .int a :: r => if b = 0 then none else K (pc + len) L (.int (a - a / b * b) :: r) S | _ => none
  | .ishl => match st with | .int b :: .int a :: r => K (pc + len) L (.int (a <<< (b &&& 31)) :: r) S | _ => none
  | .ishr => match st with | .int b :: .int a :: r => K (pc + len) L (.int (a >>> (b &&& 31)) :: r) S | _ => none
  | .ladd => match st with | .long b :: .long a :: r => K (pc + len) L (.long (a + b) :: r) S | _ => none
  | .land => match st with | .long b :: .long a :: r => K (pc + len) L (.long (a &&& b) :: r) S | _ => none
  | .lor => match st with | .long b :: .long a :: r => K (pc + len) L (.long (a ||| b) :: r) S | _ => none
  | .lshl => match st with | .int b :: .long a :: r => K (pc + len) L (.long (a <<< (b.toInt64 &&& 63)) :: r) S | _ => none
  | .lshr => match st with | .int b :: .long a :: r => K (pc + len) L (.long (a >>> (b.toInt64 &&& 63)) :: r) S | _ => none
  | .i2l => match st with | .int a :: r => K (pc + len) L (.long a.toInt64 :: r) S | _ => none
  | .l2i => match st with | .long a :: r => K (pc + len) L (.int a.toInt32 :: r) S | _ => none
  | .lcmp => match st with | .long b :: .long a :: r => K (pc + len) L (.int (lg_cmp a b) :: r) S | _ => none
  | .dup => match st with | v0 :: r => bif a_isl v0 then none else K (pc + len) L (v0 :: v0 :: r) S | _ => none
  | .dup2 => match st with | v0 :: v1 :: r => bif a_isl v0 || a_isl v1 then none else K (pc + len) L (v0 :: v1 :: v0 :: v1 :: r) S | _ => none
  | .pop => match st with | v0 :: r => bif a_isl v0 then none else K (pc + len) L r S | _ => none
  | .ifCond c _ => match st with | .int a :: r => a_if c a 0 (K x L r S) (K (pc + len) L r S) | _ => none
  | .if_icmp c _ => match st with | .int b :: .int a :: r => a_if c a b (K x L r S) (K (pc + len) L r S) | _ => none
  | .goto _ => K x L st S
  | .getfield _ => match st with | .ref k :: r => (match a_gf S k x y with | some u => K (pc + len) L (u :: r) S | none => none) | _ => none
  | .putfield _ => match st with | v0 :: .ref k :: r => a_pf S k x y v0 (fun S' => K (pc + len) L r S') | _ => none
  | .iaload => match st with | .int j :: .ref k :: r => a_ald sc S k j (fun u => K (pc + len) L (.int u :: r) S) | _ => none
  | .baload => match st with | .int j :: .ref k :: r => a_zld S k j (fun u => K (pc + len) L (.int u :: r) S) | _ => none
  | .laload => match st with | .int j :: .ref k :: r => a_lld S k j (fun u => K (pc + len) L (.long u :: r) S) | _ => none
  | .iastore => match st with | .int u :: .int j :: .ref k :: r => a_ast S k j u (fun S' => K (pc + len) L r S') | _ => none
  | .bastore => match st with | .int u :: .int j :: .ref k :: r => a_zst S k j u (fun S' => K (pc + len) L r S') | _ => none
  | .lastore => match st with | .long u :: .int j :: .ref k :: r => a_lst S k j u (fun S' => K (pc + len) L r S') | _ => none
  | .arraylength => match st with | .ref k :: r => (match a_len sc k with | some u => K (pc + len) L (.int u :: r) S | none => none) | _ => none
  | .tableswitch _ _ _ _ => match st with | .int a :: r => a_swi a (fun t => K t L r S) x sw | _ => none
  | .invokevirtual idx => a_call cb idx st S (fun st' S' => KC (pc + len) L st' S')
  | .invokestatic idx => a_call cb idx st S (fun st' S' => KC (pc + len) L st' S')
  | .invokespecial idx => a_call cb idx st S (fun st' S' => KC (pc + len) L st' S')
  | .ireturn => (a_rv .ireturn y st).map (fun r => (r, S))
  | .lreturn => (a_rv .lreturn y st).map (fun r => (r, S))
  | .areturn => (a_rv .areturn y st).map (fun r => (r, S))
  | .return_ => (a_rv .return_ y st).map (fun r => (r, S))
  | _ => none
def a_mo (e : a_E) : List Bool := e.2.2.2.2.2.2.2
def a_ev (sc : a_Sc) (tab : Nat → Option a_E) (cb : a_C) : Nat → a_K
  | 0 => fun _ _ _ _ => none
  | n + 1 => fun pc L st S => match tab pc with
    | none => none
    | some e => a_stp sc cb (a_ev sc tab cb n) (a_ev sc tab cb n) e pc (a_mk (a_mo e) L) st S
noncomputable def a_run {α : Type} (f : Nat → Option α) : Option α := by
  classical
  exact if h : ∃ n, (f n).isSome = true then f h.choose else none
noncomputable def a_G (sc : a_Sc) (tab : Nat → Option a_E) (cb : a_C) : a_K := fun pc L st S => a_run (fun n => a_ev sc tab cb n pc L st S)
/-- some steps in the line, to a cut -/
def a_evK (sc : a_Sc) (tab : Nat → Option a_E) (cb : a_C) (cut : Nat → Bool) (K : a_K) : Nat → a_K
  | 0 => K
  | n + 1 => fun pc L st S => bif cut pc then K pc L st S else match tab pc with
    | none => none
    | some e => a_stp sc cb (a_evK sc tab cb cut K n) K e pc (a_mk (a_mo e) L) st S
theorem a_swi_form (a : Int32) (d : Nat) (sw : List (Int32 × Nat)) : ∃ t, ∀ T : Nat → Option a_O, a_swi a T d sw = T t := by
  induction sw with
  | nil => exact ⟨d, fun _ => rfl⟩
  | cons q l ih =>
    obtain ⟨t, ht⟩ := ih
    obtain ⟨c, t0⟩ := q
    by_cases h : a = c
    · exact ⟨t0, fun T => by simp [a_swi, h]⟩
    · exact ⟨t, fun T => by simp [a_swi, h, ht]⟩
def a_form (F : a_K → Option a_O) : Prop := (∃ o, ∀ K, F K = o) ∨ ∃ pc L st S, ∀ K : a_K, F K = K pc L st S
theorem a_form_c (o : Option a_O) : a_form (fun _ => o) := Or.inl ⟨o, fun _ => rfl⟩
theorem a_form_k (pc : Nat) (L st : List Value) (S : a_M) : a_form (fun K => K pc L st S) := Or.inr ⟨pc, L, st, S, fun _ => rfl⟩
theorem a_form_ite {c : Prop} [Decidable c] {A B : a_K → Option a_O} (hA : a_form A) (hB : a_form B) : a_form (fun K => if c then A K else B K) := by
  by_cases h : c
  · simp only [if_pos h]; exact hA
  · simp only [if_neg h]; exact hB
theorem a_form_b {c : Bool} {A B : a_K → Option a_O} (hA : a_form A) (hB : a_form B) : a_form (fun K => bif c then A K else B K) := by
  cases c
  · exact hB
  · exact hA
theorem a_form_bind (f : Option a_O) {A : a_O → a_K → Option a_O} (h : ∀ q, a_form (A q)) : a_form (fun K => f.bind (fun q => A q K)) := by
  cases f with
  | none => exact a_form_c none
  | some q => exact h q
set_option maxHeartbeats 4000000 in
theorem a_stp_form (sc : a_Sc) (cb : a_C) (e : a_E) (pc : Nat) (L st : List Value) (S : a_M) : a_form (fun K => a_stp sc cb K K e pc L st S) := by
  obtain ⟨i, len, x, y, v, w, sw, mk⟩ := e
  cases i
  case tableswitch =>
    simp only [a_stp]
    split
    · rename_i a r
      obtain ⟨t, ht⟩ := a_swi_form a x sw
      exact Or.inr ⟨t, L, r, S, fun K => ht (fun t => K t L r S)⟩
    · exact a_form_c _
  case invokevirtual =>
    simp only [a_stp, a_call]
    split
    · exact a_form_b (a_form_bind _ (fun q => a_form_k _ _ _ _)) (a_form_c _)
    · exact a_form_c _
  case invokestatic =>
    simp only [a_stp, a_call]
    split
    · exact a_form_b (a_form_bind _ (fun q => a_form_k _ _ _ _)) (a_form_c _)
    · exact a_form_c _
  case invokespecial =>
    simp only [a_stp, a_call]
    split
    · exact a_form_b (a_form_bind _ (fun q => a_form_k _ _ _ _)) (a_form_c _)
    · exact a_form_c _
  case putfield =>
    simp only [a_stp, a_pf]
    split
    · split
      · refine a_form_b ?_ (a_form_c _)
        split
        · exact a_form_k _ _ _ _
        · exact a_form_k _ _ _ _
        · exact a_form_ite (a_form_k _ _ _ _) (a_form_c _)
        · exact a_form_c _
      · exact a_form_c _
    · exact a_form_c _
  case ifCond c o =>
    simp only [a_stp]
    split
    · cases c <;> exact a_form_ite (a_form_k _ _ _ _) (a_form_k _ _ _ _)
    · exact a_form_c _
  case if_icmp c o =>
    simp only [a_stp]
    split
    · cases c <;> exact a_form_ite (a_form_k _ _ _ _) (a_form_k _ _ _ _)
    · exact a_form_c _
  case getfield =>
    simp only [a_stp]
    split
    · split
      · exact a_form_k _ _ _ _
      · exact a_form_c _
    · exact a_form_c _
  case arraylength =>
    simp only [a_stp]
    split
    · split
      · exact a_form_k _ _ _ _
      · exact a_form_c _
    · exact a_form_c _
  case dup =>
    simp only [a_stp]
    split
    · exact a_form_b (a_form_c _) (a_form_k _ _ _ _)
    · exact a_form_c _
  case dup2 =>
    simp only [a_stp]
    split
    · exact a_form_b (a_form_c _) (a_form_k _ _ _ _)
    · exact a_form_c _
  case pop =>
    simp only [a_stp]
    split
    · exact a_form_b (a_form_c _) (a_form_k _ _ _ _)
    · exact a_form_c _
  case iaload =>
    simp only [a_stp, a_ald]
    split
    · split
      · exact a_form_ite (a_form_c _) (a_form_k _ _ _ _)
      · split
        · exact a_form_ite (a_form_c _) (a_form_k _ _ _ _)
        · exact a_form_c _
      · exact a_form_c _
    · exact a_form_c _
  all_goals first
    | exact a_form_c _
    | exact a_form_k _ _ _ _
    | (simp only [a_stp, a_zld, a_lld, a_ast, a_zst, a_lst]
       split
       · first
         | exact a_form_k _ _ _ _
         | exact a_form_ite (a_form_c _) (a_form_k _ _ _ _)
         | (split
            · exact a_form_ite (a_form_c _) (a_form_k _ _ _ _)
            · exact a_form_c _)
       · exact a_form_c _)
theorem a_stp_or (sc : a_Sc) (cb : a_C) (e : a_E) (pc : Nat) (L st : List Value) (S : a_M) : (∃ o, ∀ K : a_K, a_stp sc cb K K e pc L st S = o) ∨ ∃ pc' L' st' S', ∀ K : a_K, a_stp sc cb K K e pc L st S = K pc' L' st' S' := a_stp_form sc cb e pc L st S
theorem a_ev_succ (sc : a_Sc) (tab : Nat → Option a_E) (cb : a_C) (n pc : Nat) (L st : List Value) (S : a_M) : a_ev sc tab cb (n + 1) pc L st S = match tab pc with
    | none => none
    | some e => a_stp sc cb (a_ev sc tab cb n) (a_ev sc tab cb n) e pc (a_mk (a_mo e) L) st S := rfl
theorem a_ev_mono (sc : a_Sc) (tab : Nat → Option a_E) (cb : a_C) (n : Nat) : ∀ (pc : Nat) (L st : List Value) (S : a_M) (o : a_O), a_ev sc tab cb n pc L st S = some o → a_ev sc tab cb (n + 1) pc L st S = some o := by
  induction n with
  | zero => intro pc L st S o h; cases h
  | succ n ih =>
    intro pc L st S o h
    rw [a_ev_succ] at h ⊢
    cases ht : tab pc with
    | none => rw [ht] at h; cases h
    | some e =>
      rw [ht] at h
      dsimp only at h ⊢
      rcases a_stp_or sc cb e pc (a_mk (a_mo e) L) st S with ⟨o', ho⟩ | ⟨pc', L', st', S', hk⟩
      · rw [ho] at h ⊢; exact h
      · rw [hk] at h ⊢; exact ih _ _ _ _ _ h
theorem a_ev_add (sc : a_Sc) (tab : Nat → Option a_E) (cb : a_C) (n k pc : Nat) (L st : List Value) (S : a_M) (o : a_O) (h : a_ev sc tab cb n pc L st S = some o) : a_ev sc tab cb (n + k) pc L st S = some o := by
  induction k with
  | zero => exact h
  | succ k ih => exact a_ev_mono sc tab cb (n + k) _ _ _ _ _ ih
theorem a_run_spec {α : Type} (f : Nat → Option α) (hm : ∀ n k o, f n = some o → f (n + k) = some o) (o : α) : a_run f = some o ↔ ∃ n, f n = some o := by
  unfold a_run
  constructor
  · intro h
    split at h
    · exact ⟨_, h⟩
    · cases h
  · rintro ⟨n, hn⟩
    have hex : ∃ n, (f n).isSome = true := ⟨n, by rw [hn]; rfl⟩
    rw [dif_pos hex]
    obtain ⟨o', ho'⟩ := Option.isSome_iff_exists.mp hex.choose_spec
    have h1 := hm n hex.choose o hn
    have h2 := hm hex.choose n o' ho'
    rw [Nat.add_comm] at h2
    rw [h1] at h2
    rw [ho']
    exact h2.symm
theorem a_G_some (sc : a_Sc) (tab : Nat → Option a_E) (cb : a_C) (pc : Nat) (L st : List Value) (S : a_M) (o : a_O) : a_G sc tab cb pc L st S = some o ↔ ∃ n, a_ev sc tab cb n pc L st S = some o :=
  a_run_spec _ (fun n k o h => a_ev_add sc tab cb n k pc L st S o h) o
theorem a_G_eq (sc : a_Sc) (tab : Nat → Option a_E) (cb : a_C) (pc : Nat) (L st : List Value) (S : a_M) : a_G sc tab cb pc L st S = match tab pc with
    | none => none
    | some e => a_stp sc cb (a_G sc tab cb) (a_G sc tab cb) e pc (a_mk (a_mo e) L) st S := by
  apply Option.ext
  intro o
  show a_G sc tab cb pc L st S = some o ↔ _ = some o
  rw [a_G_some]
  cases ht : tab pc with
  | none =>
    constructor
    · rintro ⟨n, hn⟩
      cases n with
      | zero => cases hn
      | succ n => rw [a_ev_succ, ht] at hn; cases hn
    · intro h; cases h
  | some e =>
    dsimp only
    rcases a_stp_or sc cb e pc (a_mk (a_mo e) L) st S with ⟨o', ho⟩ | ⟨pc', L', st', S', hk⟩
    · rw [ho]
      constructor
      · rintro ⟨n, hn⟩
        cases n with
        | zero => cases hn
        | succ n => rw [a_ev_succ, ht] at hn; dsimp only at hn; rw [ho] at hn; exact hn
      · intro h
        exact ⟨1, by rw [a_ev_succ, ht]; dsimp only; rw [ho]; exact h⟩
    · rw [hk, a_G_some]
      constructor
      · rintro ⟨n, hn⟩
        cases n with
        | zero => cases hn
        | succ n => rw [a_ev_succ, ht] at hn; dsimp only at hn; rw [hk] at hn; exact ⟨n, hn⟩
      · rintro ⟨n, hn⟩
        exact ⟨n + 1, by rw [a_ev_succ, ht]; dsimp only; rw [hk]; exact hn⟩
theorem a_evK_G (sc : a_Sc) (tab : Nat → Option a_E) (cb : a_C) (cut : Nat → Bool) (n : Nat) : a_evK sc tab cb cut (a_G sc tab cb) n = a_G sc tab cb := by
  induction n with
  | zero => rfl
  | succ n ih =>
    funext pc L st S
    show (bif cut pc then a_G sc tab cb pc L st S else match tab pc with
      | none => none
      | some e => a_stp sc cb (a_evK sc tab cb cut (a_G sc tab cb) n) (a_G sc tab cb) e pc (a_mk (a_mo e) L) st S) = _
    rw [ih, ← a_G_eq]
    cases cut pc <;> rfl
/-- G, unfolded to the cuts -/
theorem a_unf (sc : a_Sc) (tab : Nat → Option a_E) (cb : a_C) (cut : Nat → Bool) (n pc : Nat) (L st : List Value) (S : a_M) : a_G sc tab cb pc L st S = match tab pc with
    | none => none
    | some e => a_stp sc cb (a_evK sc tab cb cut (a_G sc tab cb) n) (a_G sc tab cb) e pc (a_mk (a_mo e) L) st S := by
  rw [a_evK_G]
  exact a_G_eq sc tab cb pc L st S
end
section
/-! ===== what the small machine says of the large one ===== -/
/-- the tables' words that a method takes along; those of nest mates, which its state takes along -/
def a_isN : Jvm.Cond → Bool
  | .fieldLinkNest _ _ _ _ _ _ => true
  | .methodLinkNest _ _ _ _ => true
  | _ => false
def a_T : List Jvm.Cond := lw_tbl.filter goodWord
def a_N : List Jvm.Cond := lw_tbl.filter a_isN
theorem a_inT {w : Jvm.Cond} (h : w ∈ lw_tbl) (hg : goodWord w = true) : w ∈ a_T := List.mem_filter.mpr ⟨h, hg⟩
theorem a_inN {w : Jvm.Cond} (h : w ∈ lw_tbl) (hg : a_isN w = true) : w ∈ a_N := List.mem_filter.mpr ⟨h, hg⟩
theorem a_Nw_warm {s U : State} (hW : s.WarmedH U.vm) (h : ∀ w ∈ a_N, va_Nw w s) : ∀ w ∈ a_N, va_Nw w U := by
  intro w hw
  have h1 := h w hw
  have h2 := (List.mem_filter.mp hw).2
  cases w <;> simp only [a_isN] at h2 <;> first
    | exact absurd h2 (by decide)
    | exact va_Nw.warmF hW h1
    | exact va_Nw.warmM hW h1
theorem a_Nw_same {u U : State} (hvm : u.vm = U.vm) (h : ∀ w ∈ a_N, va_Nw w u) : ∀ w ∈ a_N, va_Nw w U := by
  intro w hw
  have h1 := h w hw
  have h2 := (List.mem_filter.mp hw).2
  cases w <;> simp only [a_isN] at h2 <;> first
    | exact absurd h2 (by decide)
    | exact va_Nw.same rfl hvm h1
def a_cv (ad : Nat → Nat) : Value → Value
  | .ref k => .ref (ad k)
  | v => v
theorem a_cv_null {ad : Nat → Nat} {v : Value} (h : v ≠ .null) : a_cv ad v ≠ .null := by
  cases v <;> simp_all [a_cv]
theorem a_cv_cat (ad : Nat → Nat) (v : Value) : (a_cv ad v).category = v.category := by cases v <;> rfl
theorem a_isl_cat (v : Value) : a_isl v = true ↔ v.category = 2 := by cases v <;> simp [a_isl, Value.category]
theorem a_isl_1 {v : Value} (h : a_isl v = false) : v.category = 1 := by cases v <;> simp_all [a_isl, Value.category]
theorem a_cats_sum (ad : Nat → Nat) (l : List Value) : ((l.map (a_cv ad)).map fun v => v.category).sum = a_cats l := by
  induction l with
  | nil => rfl
  | cons v l ih =>
    simp only [List.map_cons, List.sum_cons, ih, a_cats, a_cv_cat]
    cases v <;> rfl
/-- the locals of the large machine hold those of the small one, but for what isn't known -/
def a_lo (ad : Nat → Nat) (ls : Array Slot) (nL : Nat) (L : List Value) : Prop := ls.size = nL ∧ lv_wf ls ∧ L.length = nL ∧ ∀ (i : Nat) (v : Value), L[i]? = some v → v ≠ .null → ls[i]? = some (.val (a_cv ad v))
theorem a_lk_some {L : List Value} {k : Nat} {v : Value} (h : a_lk L k = v) (hv : v ≠ .null) : L[k]? = some v := by
  unfold a_lk at h
  rw [List.getD_eq_getElem?_getD] at h
  cases hk : L[k]? with
  | none => rw [hk] at h; exact absurd h.symm hv
  | some u => rw [hk] at h; exact congrArg some h
theorem a_lo.get {ad : Nat → Nat} {ls : Array Slot} {nL : Nat} {L : List Value} (h : a_lo ad ls nL L) {k : Nat} {v : Value} (hk : a_lk L k = v) (hv : v ≠ .null) : ls[k]? = some (.val (a_cv ad v)) := h.2.2.2 k v (a_lk_some hk hv) hv
def a_pl (ad : Nat → Nat) (L : List Value) : List (Nat × Value) := (List.range L.length).filterMap (fun i => match L[i]? with
  | some v => if v = .null then none else some (i, a_cv ad v)
  | none => none)
theorem a_pl_mem {ad : Nat → Nat} {L : List Value} {i : Nat} {u : Value} : (i, u) ∈ a_pl ad L ↔ ∃ v, L[i]? = some v ∧ v ≠ .null ∧ u = a_cv ad v := by
  unfold a_pl
  rw [List.mem_filterMap]
  constructor
  · rintro ⟨j, -, hj⟩
    split at hj
    · rename_i v hv
      split at hj
      · cases hj
      · rename_i hn
        cases hj
        exact ⟨v, hv, hn, rfl⟩
    · cases hj
  · rintro ⟨v, hv, hn, rfl⟩
    refine ⟨i, List.mem_range.mpr (List.getElem?_eq_some_iff.mp hv).1, ?_⟩
    rw [hv]
    dsimp only
    rw [if_neg hn]
theorem a_lo.has {ad : Nat → Nat} {ls : Array Slot} {nL : Nat} {L : List Value} (h : a_lo ad ls nL L) : lv_has ls nL (a_pl ad L) := by
  refine ⟨h.1, h.2.1, fun q hq => ?_⟩
  obtain ⟨i, u⟩ := q
  obtain ⟨v, h1, h2, rfl⟩ := a_pl_mem.mp hq
  exact h.2.2.2 i v h1 h2
theorem a_kill_len (L : List Value) (k : Nat) : (a_kill L k).length = L.length := by
  cases k with
  | zero => rfl
  | succ j =>
    simp only [a_kill]
    cases a_isl (L.getD j .null) <;> simp
theorem a_kill_at {L : List Value} {k i : Nat} {v : Value} (h : (a_kill L k)[i]? = some v) (hv : v ≠ .null) : L[i]? = some v ∧ ¬ (i + 1 = k ∧ v.category = 2) := by
  cases k with
  | zero => exact ⟨h, fun q => by omega⟩
  | succ j =>
    simp only [a_kill] at h
    cases hb : a_isl (L.getD j .null) with
    | false =>
      rw [hb] at h
      refine ⟨h, fun q => ?_⟩
      have hij : i = j := by omega
      subst hij
      have h2 : L[i]? = some v := h
      rw [List.getD_eq_getElem?_getD, h2] at hb
      have := (a_isl_cat v).mpr q.2
      simp only [Option.getD_some] at hb
      rw [hb] at this; cases this
    | true =>
      rw [hb] at h
      by_cases hij : i = j
      · subst hij
        have hlt : i < L.length := by
          have := (List.getElem?_eq_some_iff.mp h).1
          simpa using this
        have h2 : (L.set i Value.null)[i]? = some v := h
        rw [List.getElem?_set_self hlt] at h2
        cases h2
        exact absurd rfl hv
      · have h2 : (L.set j Value.null)[i]? = some v := h
        rw [List.getElem?_set_ne (Ne.symm hij)] at h2
        exact ⟨h2, fun q => hij (by omega)⟩
theorem a_lo.s1 {ad : Nat → Nat} {ls' : Array Slot} {nL : Nat} {L : List Value} {i : Nat} {v : Value} (hlen : L.length = nL) (h : lv_has ls' nL ((i, a_cv ad v) :: (a_pl ad L).filter (fun q => !(q.1 == i) && !(q.1 + 1 == i && q.2.category == 2)))) : a_lo ad ls' nL (a_s1 L i v) := by
  refine ⟨h.1, h.2.1, by simp [a_s1, a_kill_len, hlen], fun j u hj hu => ?_⟩
  unfold a_s1 at hj
  by_cases hji : j = i
  · subst hji
    have hlt : j < (a_kill L j).length := by
      have := (List.getElem?_eq_some_iff.mp hj).1
      simpa using this
    rw [List.getElem?_set_self hlt] at hj
    cases hj
    exact h.2.2 (j, a_cv ad v) List.mem_cons_self
  · rw [List.getElem?_set_ne (Ne.symm hji)] at hj
    obtain ⟨h1, h2⟩ := a_kill_at hj hu
    refine h.2.2 (j, a_cv ad u) (List.mem_cons_of_mem _ (List.mem_filter.mpr ⟨a_pl_mem.mpr ⟨u, h1, hu, rfl⟩, ?_⟩))
    simp only [Bool.and_eq_true, Bool.not_eq_true', beq_eq_false_iff_ne, ne_eq, Bool.and_eq_false_iff, a_cv_cat]
    refine ⟨hji, ?_⟩
    by_cases hc : j + 1 = i
    · exact Or.inr (fun q => h2 ⟨hc, q⟩)
    · exact Or.inl hc
theorem a_lo.s2 {ad : Nat → Nat} {ls' : Array Slot} {nL : Nat} {L : List Value} {i : Nat} {v : Value} (hlen : L.length = nL) (h : lv_has ls' nL ((i, a_cv ad v) :: (a_pl ad L).filter (fun q => !(q.1 == i) && (!(q.1 == i + 1) && !(q.1 + 1 == i && q.2.category == 2))))) : a_lo ad ls' nL (a_s2 L i v) := by
  refine ⟨h.1, h.2.1, by simp [a_s2, a_kill_len, hlen], fun j u hj hu => ?_⟩
  unfold a_s2 at hj
  by_cases hj1 : j = i + 1
  · subst hj1
    have hlt : i + 1 < ((a_kill L i).set i v).length := by
      have := (List.getElem?_eq_some_iff.mp hj).1
      simpa using this
    rw [List.getElem?_set_self hlt] at hj
    cases hj
    exact absurd rfl hu
  · rw [List.getElem?_set_ne (Ne.symm hj1)] at hj
    by_cases hji : j = i
    · subst hji
      have hlt : j < (a_kill L j).length := by
        have := (List.getElem?_eq_some_iff.mp hj).1
        simpa using this
      rw [List.getElem?_set_self hlt] at hj
      cases hj
      exact h.2.2 (j, a_cv ad v) List.mem_cons_self
    · rw [List.getElem?_set_ne (Ne.symm hji)] at hj
      obtain ⟨h1, h2⟩ := a_kill_at hj hu
      refine h.2.2 (j, a_cv ad u) (List.mem_cons_of_mem _ (List.mem_filter.mpr ⟨a_pl_mem.mpr ⟨u, h1, hu, rfl⟩, ?_⟩))
      simp only [Bool.and_eq_true, Bool.not_eq_true', beq_eq_false_iff_ne, ne_eq, Bool.and_eq_false_iff, a_cv_cat]
      refine ⟨hji, hj1, ?_⟩
      by_cases hc : j + 1 = i
      · exact Or.inr (fun q => h2 ⟨hc, q⟩)
      · exact Or.inl hc
theorem a_mk_at : ∀ (m : List Bool) (L : List Value) (i : Nat) (v : Value), (a_mk m L)[i]? = some v → v ≠ .null → L[i]? = some v
  | [], L, i, v, h, _ => h
  | b :: m, [], i, v, h, _ => by simp [a_mk] at h
  | b :: m, u :: l, i, v, h, hv => by
    cases i with
    | zero =>
      simp only [a_mk, List.getElem?_cons_zero] at h ⊢
      cases b
      · cases h; exact absurd rfl hv
      · exact h
    | succ i =>
      simp only [a_mk, List.getElem?_cons_succ] at h ⊢
      cases m with
      | nil =>
        simp only [List.getElem?_map] at h
        cases hl : l[i]? with
        | none => rw [hl] at h; cases h
        | some z => rw [hl] at h; cases h; exact absurd rfl hv
      | cons b2 m2 => exact a_mk_at (b2 :: m2) l i v h hv
theorem a_mk_len : ∀ (m : List Bool) (L : List Value), (a_mk m L).length = L.length
  | [], L => rfl
  | b :: m, [] => rfl
  | b :: m, u :: l => by
    cases m with
    | nil => simp [a_mk]
    | cons b2 m2 =>
      have := a_mk_len (b2 :: m2) l
      simp only [a_mk, List.length_cons] at this ⊢
      omega
theorem a_lo.mk {ad : Nat → Nat} {ls : Array Slot} {nL : Nat} {L : List Value} (m : List Bool) (h : a_lo ad ls nL L) : a_lo ad ls nL (a_mk m L) :=
  ⟨h.1, h.2.1, by rw [a_mk_len]; exact h.2.2.1, fun i v hi hv => h.2.2.2 i v (a_mk_at m L i v hi hv) hv⟩
/-! the cells -/
def a_fv (ad : Nat → Nat) (S : a_M) (k ci j : Nat) : Value := match a_fk ci j with
  | 0 => .int (S.1 k j)
  | 1 => .long (S.2 k j)
  | 2 => .int (S.1 k j)
  | _ => .ref (ad (a_rf k j))
def a_en (cI cZ cJ : ClassId) (ad : Nat → Nat) (S : a_M) (k : Nat) : va_E := match a_ds k with
  | (0, ci) => .inr (ci, (List.range (a_nf ci)).map (a_fv ad S k ci))
  | (1, n) => .inl (cI, n, .inl (S.1 k))
  | (2, n) => .inl (cZ, n, .inl (S.1 k))
  | (_, n) => .inl (cJ, n, .inr (.inl (S.2 k)))
def a_ws (cI cZ cJ : ClassId) (ad : Nat → Nat) (S : a_M) : va_W := (List.range 103).map (fun k => (ad k, a_en cI cZ cJ ad S k))
theorem a_ws_at {cI cZ cJ : ClassId} {ad : Nat → Nat} {S : a_M} {k : Nat} (hk : k < 103) : (a_ws cI cZ cJ ad S)[k]? = some (ad k, a_en cI cZ cJ ad S k) := by
  simp [a_ws, hk]
theorem a_ws_lt {cI cZ cJ : ClassId} {ad : Nat → Nat} {S : a_M} {k : Nat} {q : Nat × va_E} (h : (a_ws cI cZ cJ ad S)[k]? = some q) : k < 103 ∧ q.1 = ad k := by
  have hk : k < 103 := by
    have := (List.getElem?_eq_some_iff.mp h).1
    simpa [a_ws] using this
  rw [a_ws_at hk] at h
  cases h
  exact ⟨hk, rfl⟩
theorem a_ws_set {cI cZ cJ : ClassId} {ad : Nat → Nat} {S S' : a_M} {k : Nat} (h : ∀ j, j ≠ k → a_en cI cZ cJ ad S' j = a_en cI cZ cJ ad S j) : (a_ws cI cZ cJ ad S).set k (ad k, a_en cI cZ cJ ad S' k) = a_ws cI cZ cJ ad S' := by
  apply List.ext_getElem?
  intro j
  by_cases hjk : j = k
  · subst hjk
    by_cases hj : j < 103
    · rw [a_ws_at hj, List.getElem?_set_self (by simpa [a_ws] using hj)]
    · rw [List.getElem?_eq_none (by simpa [a_ws] using hj), List.getElem?_eq_none (by simpa [a_ws] using hj)]
  · rw [List.getElem?_set_ne (Ne.symm hjk)]
    by_cases hj : j < 103
    · rw [a_ws_at hj, a_ws_at hj, h j hjk]
    · rw [List.getElem?_eq_none (by simpa [a_ws] using hj), List.getElem?_eq_none (by simpa [a_ws] using hj)]
theorem a_en_wi {cI cZ cJ : ClassId} {ad : Nat → Nat} {S : a_M} {k i : Nat} {v : Int32} : ∀ j, j ≠ k → a_en cI cZ cJ ad (a_wi S k i v) j = a_en cI cZ cJ ad S j := by
  intro j hj
  have h1 : (a_wi S k i v).1 j = S.1 j := if_neg hj
  have h2 : (a_wi S k i v).2 = S.2 := rfl
  have h3 : a_fv ad (a_wi S k i v) j = a_fv ad S j := by funext ci x; simp only [a_fv, h1, h2]
  unfold a_en
  rw [h1, h2, h3]
theorem a_en_wl {cI cZ cJ : ClassId} {ad : Nat → Nat} {S : a_M} {k i : Nat} {v : Int64} : ∀ j, j ≠ k → a_en cI cZ cJ ad (a_wl S k i v) j = a_en cI cZ cJ ad S j := by
  intro j hj
  have h1 : (a_wl S k i v).2 j = S.2 j := if_neg hj
  have h2 : (a_wl S k i v).1 = S.1 := rfl
  have h3 : a_fv ad (a_wl S k i v) j = a_fv ad S j := by funext ci x; simp only [a_fv, h1, h2]
  unfold a_en
  rw [h1, h2, h3]
theorem a_wi_k {S : a_M} {k i : Nat} {v : Int32} : (a_wi S k i v).1 k = upd (S.1 k) i v := if_pos rfl
theorem a_wl_k {S : a_M} {k i : Nat} {v : Int64} : (a_wl S k i v).2 k = vp_updL (S.2 k) i v := if_pos rfl
theorem a_ds_big {k : Nat} (h : 103 ≤ k) : 4 ≤ (a_ds k).1 := by
  rcases Nat.lt_or_ge 103 k with h1 | h1
  · have : Nat.ble k 103 = false := by
      cases hb : Nat.ble k 103
      · rfl
      · exact absurd (Nat.le_of_ble_eq_true hb) (by omega)
    unfold a_ds
    rw [this]
    show 4 ≤ 9
    decide
  · have : k = 103 := by omega
    subst this
    decide
theorem a_ds_lt {k a n : Nat} (h : a_ds k = (a, n)) (ha : a < 4) : k < 103 := by
  rcases Nat.lt_or_ge k 103 with h1 | h1
  · exact h1
  · have := a_ds_big h1
    rw [h] at this
    dsimp only at this
    omega
theorem a_fs_len {ad : Nat → Nat} {S : a_M} {k ci N : Nat} : ((List.range N).map (a_fv ad S k ci)).length = N := by simp
theorem a_fs_i {ad : Nat → Nat} {S : a_M} {k ci y N : Nat} {a : Int32} (h : a_fk ci y = 0 ∨ a_fk ci y = 2) : ((List.range N).map (a_fv ad S k ci)).set y (.int a) = (List.range N).map (a_fv ad (a_wi S k y a) k ci) := by
  apply List.ext_getElem?
  intro j
  by_cases hj : j = y
  · subst hj
    by_cases hN : j < N
    · rw [List.getElem?_set_self (by simpa using hN)]
      have hv : a_fv ad (a_wi S k j a) k ci j = .int a := by
        unfold a_fv
        rw [a_wi_k]
        rcases h with h | h <;> (rw [h]; simp [upd])
      simp [hN, hv]
    · rw [List.getElem?_eq_none (by simpa using hN), List.getElem?_eq_none (by simpa using hN)]
  · rw [List.getElem?_set_ne (Ne.symm hj)]
    have hv : a_fv ad (a_wi S k y a) k ci j = a_fv ad S k ci j := by
      unfold a_fv
      rw [a_wi_k, show (a_wi S k y a).2 = S.2 from rfl, show upd (S.1 k) y a j = S.1 k j from if_neg hj]
    simp [List.getElem?_map, hv]
    by_cases hN : j < N
    · simp [hN, hv]
    · rw [List.getElem?_eq_none (by simpa using hN)]; rfl
theorem a_fs_l {ad : Nat → Nat} {S : a_M} {k ci y N : Nat} {a : Int64} (h : a_fk ci y = 1) : ((List.range N).map (a_fv ad S k ci)).set y (.long a) = (List.range N).map (a_fv ad (a_wl S k y a) k ci) := by
  apply List.ext_getElem?
  intro j
  by_cases hj : j = y
  · subst hj
    by_cases hN : j < N
    · rw [List.getElem?_set_self (by simpa using hN)]
      have hv : a_fv ad (a_wl S k j a) k ci j = .long a := by
        unfold a_fv
        rw [a_wl_k, h]
        simp [vp_updL]
      simp [hN, hv]
    · rw [List.getElem?_eq_none (by simpa using hN), List.getElem?_eq_none (by simpa using hN)]
  · rw [List.getElem?_set_ne (Ne.symm hj)]
    have hv : a_fv ad (a_wl S k y a) k ci j = a_fv ad S k ci j := by
      unfold a_fv
      rw [a_wl_k, show (a_wl S k y a).1 = S.1 from rfl, show vp_updL (S.2 k) y a j = S.2 k j from if_neg hj]
    by_cases hN : j < N
    · simp [hN, hv]
    · rw [List.getElem?_eq_none (by simpa using hN), List.getElem?_eq_none (by simpa using hN)]
/-- an entry of a class's pool that names a field -/
def a_CF (own : String) (idx x y : Nat) : Prop := ∃ (C : String) (T : u_T) (N : Nat) (ty0 : Nat → FieldType), vwCl[x]? = some (C, T, N) ∧ N = a_nf x ∧ y < N ∧ (∀ w ∈ u_ws C T N, w ∈ a_T) ∧ (∀ k, k < N → parseFieldDescriptor (T k).2.2.1 = some (ty0 k)) ∧ (∀ a, a < N → ∀ b, b < N → a ≠ b → (T a).2.1 ≠ (T b).2.1) ∧ (T y).1 = C ∧ (a_fk x y = 3 ∨ ((T y).2.2.2 = false ∧ ((a_fk x y = 0 ∧ ty0 y = .int) ∨ (a_fk x y = 1 ∧ ty0 y = .long) ∨ (a_fk x y = 2 ∧ ty0 y = .boolean)))) ∧ (Jvm.Cond.fieldLink own idx C (T y).2.1 (T y).2.2.1 ∈ lw_tbl ∨ ∃ host, Jvm.Cond.fieldLinkNest own idx C (T y).2.1 (T y).2.2.1 host ∈ lw_tbl)
def a_swok (pc : Nat) (lo hi : Int) (offs : Array Int) : Nat → List (Int32 × Nat) → Bool
  | j, [] => decide (lo + (j : Int) = hi + 1)
  | j, (c, t) :: l => decide (c.toInt = lo + (j : Int)) && decide (lo + (j : Int) ≤ hi) && decide (offs[j]? = some ((t : Int) - (pc : Int))) && a_swok pc lo hi offs (j + 1) l
def a_rok (i : Instr) (y : Nat) (ret : Option FieldType) : Bool := match i with
  | .ireturn => (Nat.beq y 0 && decide (ret = some .int)) || (Nat.beq y 1 && decide (ret = some .boolean))
  | .lreturn => decide (ret = some .long)
  | .areturn => match ret with
    | some (.object _) => true
    | _ => false
  | .return_ => decide (ret = none)
  | _ => false
/-- an entry of a method's table is as its bytes say -/
def a_ok (ft : List (Nat × Nat × Nat)) (ct : List (Nat × Int32)) (lt : List (Nat × Int64)) (kd : Nat → Option Nat) (ret : Option FieldType) (nL pc : Nat) (e : a_E) : Bool := match e with
  | (i, len, x, y, v, w, sw, _) => match i with
  | .iconst n => Nat.beq len 1 && decide (Int32.ofInt n = v)
  | .bipush n => Nat.beq len 2 && decide ((Int8.ofInt n).toInt32 = v)
  | .sipush n => Nat.beq len 3 && decide ((Int16.ofInt n).toInt32 = v)
  | .ldc idx => Nat.beq len 2 && decide ((idx, v) ∈ ct)
  | .ldc_w idx => Nat.beq len 3 && decide ((idx, v) ∈ ct)
  | .lconst n => Nat.beq len 1 && decide (Int64.ofNat (n : Nat) = w)
  | .ldc2_w idx => Nat.beq len 3 && decide ((idx, w) ∈ lt)
  | .iload k => Nat.beq len 2 && Nat.beq k x
  | .lload k => Nat.beq len 2 && Nat.beq k x
  | .aload k => Nat.beq len 2 && Nat.beq k x
  | .iload_n k => Nat.beq len 1 && Nat.beq (k : Nat) x
  | .lload_n k => Nat.beq len 1 && Nat.beq (k : Nat) x
  | .aload_n k => Nat.beq len 1 && Nat.beq (k : Nat) x
  | .istore k => Nat.beq len 2 && Nat.beq k x && decide (x < nL)
  | .astore k => Nat.beq len 2 && Nat.beq k x && decide (x < nL)
  | .istore_n k => Nat.beq len 1 && Nat.beq (k : Nat) x && decide (x < nL)
  | .astore_n k => Nat.beq len 1 && Nat.beq (k : Nat) x && decide (x < nL)
  | .lstore k => Nat.beq len 2 && Nat.beq k x && decide (x + 1 < nL)
  | .lstore_n k => Nat.beq len 1 && Nat.beq (k : Nat) x && decide (x + 1 < nL)
  | .iinc k n => Nat.beq len 3 && Nat.beq k x && decide (Int32.ofInt n = v) && decide (x < nL)
  | .ifCond _ off => Nat.beq len 3 && decide ((pc : Int) + off = (x : Int))
  | .if_icmp _ off => Nat.beq len 3 && decide ((pc : Int) + off = (x : Int))
  | .goto off => decide ((pc : Int) + off = (x : Int)) && Nat.beq len 3
  | .getfield idx => Nat.beq len 3 && decide ((idx, x, y) ∈ ft)
  | .putfield idx => Nat.beq len 3 && decide ((idx, x, y) ∈ ft)
  | .tableswitch d lo hi offs => decide ((pc : Int) + d = (x : Int)) && a_swok pc lo hi offs 0 sw
  | .invokevirtual idx => Nat.beq len 3 && decide (kd idx = some 0)
  | .invokestatic idx => Nat.beq len 3 && decide (kd idx = some 1)
  | .invokespecial idx => Nat.beq len 3 && decide (kd idx = some 2)
  | .ireturn => Nat.beq len 1 && a_rok .ireturn y ret
  | .lreturn => Nat.beq len 1 && a_rok .lreturn y ret
  | .areturn => Nat.beq len 1 && a_rok .areturn y ret
  | .return_ => Nat.beq len 1 && a_rok .return_ y ret
  | _ => Nat.beq len 1
section ASTEP
variable {p : Program} {l : Launch} {en : Env} {R : Room} {s : State} {m : MethodId} {args : Array Value} {below : List Frame} {meth : Method} {c : Code} {Q : State → Prop}
variable {dC : Nat → ClassId} {dI : Nat → Nat → Nat} {cI cZ cJ : ClassId} {ad : Nat → Nat} {A : Nat → Prop} {H0 : Heap} {cc : ByteArray} {nL ce sl : Nat} {own : String} {o : a_O} {ret : Option FieldType}
/-- to go on at a place of the small machine is to go on there in the large one -/
def a_Kok (p : Program) (l : Launch) (en : Env) (R : Room) (s : State) (m : MethodId) (args : Array Value) (below : List Frame) (meth : Method) (c : Code) (Q : State → Prop) (dC : Nat → ClassId) (dI : Nat → Nat → Nat) (cI cZ cJ : ClassId) (ad : Nat → Nat) (A : Nat → Prop) (H0 : Heap) (nL ce sl : Nat) (o : a_O) (K : a_K) : Prop :=
  ∀ (pc : Nat) (L st : List Value) (S : a_M) (H : Heap) (locs : List Loc) (ls : Array Slot), K pc L st S = some o → a_lo ad ls nL L → va_P (dC, dI) vwCl (a_ws cI cZ cJ ad S) H → va_S A H0 H locs → W p l en R s m args below meth c H locs ce sl Q (F0 m pc ls (st.map (a_cv ad)))
/-- a call at a place of the pool -/
def a_Cl (p : Program) (l : Launch) (en : Env) (R : Room) (s : State) (m : MethodId) (args : Array Value) (below : List Frame) (meth : Method) (c : Code) (Q : State → Prop) (dC : Nat → ClassId) (dI : Nat → Nat → Nat) (cI cZ cJ : ClassId) (ad : Nat → Nat) (A : Nat → Prop) (H0 : Heap) (cc : ByteArray) (nL ce sl : Nat) (kd idx na : Nat) (f : a_F) : Prop :=
  ∀ (i : Instr) (pc : Nat) (ls : Array Slot) (vs rest : List Value) (S : a_M) (q : a_O) (H : Heap) (locs : List Loc), ((kd = 0 ∧ i = .invokevirtual idx) ∨ (kd = 1 ∧ i = .invokestatic idx) ∨ (kd = 2 ∧ i = .invokespecial idx)) → decode cc pc = .ok (i, 3) → vs.length = na → a_cats rest ≤ 8 → f vs S = some q → ls.size = nL →
    va_P (dC, dI) vwCl (a_ws cI cZ cJ ad S) H → va_S A H0 H locs →
    (∀ (H1 : Heap) (locs1 : List Loc), va_P (dC, dI) vwCl (a_ws cI cZ cJ ad q.2) H1 → va_S A H0 H1 locs1 → W p l en R s m args below meth c H1 locs1 ce sl Q (F0 m (pc + 3) ls ((q.1.toList ++ rest).map (a_cv ad)))) →
    W p l en R s m args below meth c H locs ce sl Q (F0 m pc ls ((vs.reverse ++ rest).map (a_cv ad)))
theorem a_ws_D {S : a_M} (hJ : ∀ i j, i < 103 → j < 103 → ad i = ad j → i = j) (hA : ∀ k, k < 103 → A (ad k)) : va_D A (a_ws cI cZ cJ ad S) := by
  refine ⟨fun i j x y hi hj hxy => ?_, fun k q hk => ?_⟩
  · obtain ⟨h1, e1⟩ := a_ws_lt hi
    obtain ⟨h2, e2⟩ := a_ws_lt hj
    exact hJ i j h1 h2 (by rw [← e1, ← e2]; exact hxy)
  · obtain ⟨h1, e1⟩ := a_ws_lt hk
    rw [e1]; exact hA k h1
theorem a_sw_W (hx : p.tables.exec = Jvm.exec) (hb : c.code = cc) {K : a_K} {pc len x : Nat} {d lo hi : Int} {offs : Array Int} {a : Int32} {L r : List Value} {S : a_M} {H : Heap} {locs : List Loc} {ls : Array Slot} (hd : decode cc pc = .ok (.tableswitch d lo hi offs, len)) (hdx : (pc : Int) + d = (x : Int))
    (kk : ∀ t : Nat, K t L r S = some o → W p l en R s m args below meth c H locs ce sl Q (F0 m t ls (r.map (a_cv ad)))) :
    ∀ (sw : List (Int32 × Nat)) (j : Nat), a_swok pc lo hi offs j sw = true → (a.toInt < lo ∨ lo + (j : Int) ≤ a.toInt) → a_swi a (fun t => K t L r S) x sw = some o → W p l en R s m args below meth c H locs ce sl Q (F0 m pc ls (.int a :: r.map (a_cv ad)))
  | [], j, hok, hj, h => by
    simp only [a_swok, decide_eq_true_eq] at hok
    exact lv_tableOut hx hb hd (by omega) hdx (kk x h)
  | (c0, t) :: sw, j, hok, hj, h => by
    simp only [a_swok, Bool.and_eq_true, decide_eq_true_eq] at hok
    obtain ⟨⟨⟨h1, h2⟩, h3⟩, h4⟩ := hok
    by_cases hac : a = c0
    · subst hac
      simp only [a_swi, if_true] at h
      have h5 : (a.toInt - lo).toNat = j := by rw [h1]; omega
      exact lv_tableIn hx hb hd (by omega) (by omega) (by rw [h5]; exact h3) (tgt := t) (by omega) (kk t h)
    · simp only [a_swi, if_neg hac] at h
      refine a_sw_W hx hb hd hdx kk sw (j + 1) h4 ?_ h
      have : a.toInt ≠ c0.toInt := fun q => hac (Int32.toInt_inj.mp q)
      omega
end ASTEP
end
section
theorem a_in_of {i : Int32} {n : Nat} (h : ¬ (i < 0 ∨ n ≤ i.toNatClampNeg)) : vp_in i n := h
section ASTEP2
variable {p : Program} {l : Launch} {en : Env} {R : Room} {s : State} {m : MethodId} {args : Array Value} {below : List Frame} {meth : Method} {c : Code} {Q : State → Prop}
variable {dC : Nat → ClassId} {dI : Nat → Nat → Nat} {cI cZ cJ : ClassId} {ad : Nat → Nat} {A : Nat → Prop} {H0 : Heap} {cc : ByteArray} {nL ce sl : Nat} {own : String} {o : a_O} {ret : Option FieldType}
set_option maxHeartbeats 4000000 in
set_option maxRecDepth 10000 in
theorem a_step {ft : List (Nat × Nat × Nat)} {ct : List (Nat × Int32)} {lt : List (Nat × Int64)} {sc : a_Sc} {cb : a_C} {K KC : a_K} {e : a_E} {pc : Nat} {L st : List Value} {S : a_M} {H : Heap} {locs : List Loc} {ls : Array Slot}
    (hcx : CallFix p m c cc nL s args a_T own) (hnw : ∀ w ∈ a_N, va_Nw w s) (hK : va_K (dC, dI) vwCl [(cI, .int), (cZ, .boolean), (cJ, .long)] s) (hJ : ∀ i j, i < 103 → j < 103 → ad i = ad j → i = j) (hA : ∀ k, k < 103 → A (ad k))
    (hsc : ∀ q, sc = some q → va_X (ad 103) q.1 q.2 s H0 ∧ ad 103 < H0.size ∧ ¬ A (ad 103))
    (hft : ∀ q ∈ ft, a_CF own q.1 q.2.1 q.2.2) (hct : ∀ q ∈ ct, Jvm.Cond.constant own q.1 q.2 ∈ lw_tbl) (hlt : ∀ q ∈ lt, Jvm.Cond.constantLong own q.1 q.2 ∈ lw_tbl)
    (hcb : ∀ idx kd na f, cb idx = some (kd, na, f) → a_Cl p l en R s m args below meth c Q dC dI cI cZ cJ ad A H0 cc nL ce sl kd idx na f)
    (hret : ∀ (i : Instr) (y pc : Nat) (ls : Array Slot) (st : List Value) (r : Option Value) (H : Heap) (locs : List Loc), decode cc pc = .ok (i, 1) → a_rok i y ret = true → a_rv i y st = some r → r = o.1 → va_P (dC, dI) vwCl (a_ws cI cZ cJ ad o.2) H → va_S A H0 H locs → W p l en R s m args below meth c H locs ce sl Q (F0 m pc ls (st.map (a_cv ad))))
    (hKk : a_Kok p l en R s m args below meth c Q dC dI cI cZ cJ ad A H0 nL ce sl o K) (hKC : a_Kok p l en R s m args below meth c Q dC dI cI cZ cJ ad A H0 nL ce sl o KC)
    (hd : decode cc pc = .ok (e.1, e.2.1)) (hok : a_ok ft ct lt (fun i => (cb i).map (fun q => q.1)) ret nL pc e = true) (h : a_stp sc cb K KC e pc L st S = some o)
    (hl : a_lo ad ls nL L) (hP : va_P (dC, dI) vwCl (a_ws cI cZ cJ ad S) H) (hS : va_S A H0 H locs) : W p l en R s m args below meth c H locs ce sl Q (F0 m pc ls (st.map (a_cv ad))) := by
  have hD : va_D A (a_ws cI cZ cJ ad S) := a_ws_D hJ hA
  have hcx0 := hcx
  obtain ⟨hx, hb, hml, hown, hts⟩ := hcx
  obtain ⟨i, len, x, y, v, w, sw, mk⟩ := e
  dsimp only at hd
  have callx : ∀ (idx kd : Nat), ((kd = 0 ∧ i = .invokevirtual idx) ∨ (kd = 1 ∧ i = .invokestatic idx) ∨ (kd = 2 ∧ i = .invokespecial idx)) → len = 3 → (cb idx).map (fun q => q.1) = some kd → a_call cb idx st S (fun st' S' => KC (pc + len) L st' S') = some o → W p l en R s m args below meth c H locs ce sl Q (F0 m pc ls (st.map (a_cv ad))) := by
    intro idx kd hi hlen hkd h
    subst hlen
    unfold a_call at h
    cases hcbi : cb idx with
    | none => rw [hcbi] at h; cases h
    | some q =>
      obtain ⟨kd', na, f⟩ := q
      rw [hcbi] at h hkd
      have hkd : kd' = kd := Option.some.inj hkd
      subst hkd
      dsimp only at h
      cases hb1 : (Nat.ble na st.length && Nat.ble (a_cats (st.drop na)) 8) with
      | false => rw [hb1] at h; cases h
      | true =>
        rw [hb1] at h
        simp only [Bool.and_eq_true] at hb1
        have h1 := Nat.le_of_ble_eq_true hb1.1
        have h2 := Nat.le_of_ble_eq_true hb1.2
        dsimp only [cond] at h
        cases hf : f (st.take na).reverse S with
        | none => rw [hf] at h; cases h
        | some q =>
          rw [hf] at h
          have h : KC (pc + 3) L (q.1.toList ++ st.drop na) q.2 = some o := h
          have key := hcb idx kd' na f hcbi i pc ls (st.take na).reverse (st.drop na) S q H locs hi hd (by simp [h1]) h2 hf hl.1 hP hS (fun H1 locs1 hP1 hS1 => hKC _ _ _ _ _ _ _ h hl hP1 hS1)
          rw [List.reverse_reverse, List.take_append_drop] at key
          exact key
  cases i
  case iconst n =>
    simp only [a_ok, Bool.and_eq_true, decide_eq_true_eq] at hok
    obtain rfl := Nat.eq_of_beq_eq_true hok.1
    exact lv_iconst hx hb hd hok.2 (hKk _ _ _ _ _ _ _ h hl hP hS)
  case bipush n =>
    simp only [a_ok, Bool.and_eq_true, decide_eq_true_eq] at hok
    obtain rfl := Nat.eq_of_beq_eq_true hok.1
    exact lv_bipush hx hb hd hok.2 (hKk _ _ _ _ _ _ _ h hl hP hS)
  case sipush n =>
    simp only [a_ok, Bool.and_eq_true, decide_eq_true_eq] at hok
    obtain rfl := Nat.eq_of_beq_eq_true hok.1
    exact lv_sipush hx hb hd hok.2 (hKk _ _ _ _ _ _ _ h hl hP hS)
  case ldc idx =>
    simp only [a_ok, Bool.and_eq_true, decide_eq_true_eq] at hok
    obtain rfl := Nat.eq_of_beq_eq_true hok.1
    exact lv_ldc hx hb hown (hts _ (a_inT (hct _ hok.2) rfl)) hd (hKk _ _ _ _ _ _ _ h hl hP hS)
  case ldc_w idx =>
    simp only [a_ok, Bool.and_eq_true, decide_eq_true_eq] at hok
    obtain rfl := Nat.eq_of_beq_eq_true hok.1
    exact lv_ldcw hx hb hown (hts _ (a_inT (hct _ hok.2) rfl)) hd (hKk _ _ _ _ _ _ _ h hl hP hS)
  case lconst n =>
    simp only [a_ok, Bool.and_eq_true, decide_eq_true_eq] at hok
    obtain rfl := Nat.eq_of_beq_eq_true hok.1
    exact lv_lconst hx hb hd hok.2 (hKk _ _ _ _ _ _ _ h hl hP hS)
  case ldc2_w idx =>
    simp only [a_ok, Bool.and_eq_true, decide_eq_true_eq] at hok
    obtain rfl := Nat.eq_of_beq_eq_true hok.1
    exact lv_ldc2 hx hb hown (hts _ (a_inT (hlt _ hok.2) rfl)) hd (hKk _ _ _ _ _ _ _ h hl hP hS)
  case iload k =>
    simp only [a_ok, Bool.and_eq_true] at hok
    obtain rfl := Nat.eq_of_beq_eq_true hok.1
    obtain rfl := Nat.eq_of_beq_eq_true hok.2
    simp only [a_stp] at h
    split at h
    · rename_i a ha
      exact lv_iload hx hb hd (hl.get ha (by simp)) (hKk _ _ _ _ _ _ _ h hl hP hS)
    · cases h
  case lload k =>
    simp only [a_ok, Bool.and_eq_true] at hok
    obtain rfl := Nat.eq_of_beq_eq_true hok.1
    obtain rfl := Nat.eq_of_beq_eq_true hok.2
    simp only [a_stp] at h
    split at h
    · rename_i a ha
      exact lv_lload hx hb hd (hl.get ha (by simp)) (hKk _ _ _ _ _ _ _ h hl hP hS)
    · cases h
  case aload k =>
    simp only [a_ok, Bool.and_eq_true] at hok
    obtain rfl := Nat.eq_of_beq_eq_true hok.1
    obtain rfl := Nat.eq_of_beq_eq_true hok.2
    simp only [a_stp] at h
    split at h
    · rename_i a ha
      exact lv_aload hx hb hd (hl.get ha (by simp)) (hKk _ _ _ _ _ _ _ h hl hP hS)
    · cases h
  case iload_n k =>
    simp only [a_ok, Bool.and_eq_true] at hok
    obtain rfl := Nat.eq_of_beq_eq_true hok.1
    obtain rfl := Nat.eq_of_beq_eq_true hok.2
    simp only [a_stp] at h
    split at h
    · rename_i a ha
      exact lv_iload_n hx hb hd rfl (hl.get ha (by simp)) (hKk _ _ _ _ _ _ _ h hl hP hS)
    · cases h
  case lload_n k =>
    simp only [a_ok, Bool.and_eq_true] at hok
    obtain rfl := Nat.eq_of_beq_eq_true hok.1
    obtain rfl := Nat.eq_of_beq_eq_true hok.2
    simp only [a_stp] at h
    split at h
    · rename_i a ha
      exact lv_lload_n hx hb hd rfl (hl.get ha (by simp)) (hKk _ _ _ _ _ _ _ h hl hP hS)
    · cases h
  case aload_n k =>
    simp only [a_ok, Bool.and_eq_true] at hok
    obtain rfl := Nat.eq_of_beq_eq_true hok.1
    obtain rfl := Nat.eq_of_beq_eq_true hok.2
    simp only [a_stp] at h
    split at h
    · rename_i a ha
      exact lv_aload_n hx hb hd rfl (hl.get ha (by simp)) (hKk _ _ _ _ _ _ _ h hl hP hS)
    · cases h
  case istore k =>
    simp only [a_ok, Bool.and_eq_true, decide_eq_true_eq] at hok
    obtain rfl := Nat.eq_of_beq_eq_true hok.1.1
    obtain rfl := Nat.eq_of_beq_eq_true hok.1.2
    simp only [a_stp] at h
    split at h
    · exact lv_istore hx hb hd hl.has hok.2 rfl (fun ls' hl' => hKk _ _ _ _ _ _ _ h (a_lo.s1 (v := .int _) hl.2.2.1 hl') hP hS)
    · cases h
  case istore_n k =>
    simp only [a_ok, Bool.and_eq_true, decide_eq_true_eq] at hok
    obtain rfl := Nat.eq_of_beq_eq_true hok.1.1
    obtain rfl := Nat.eq_of_beq_eq_true hok.1.2
    simp only [a_stp] at h
    split at h
    · exact lv_istore_n hx hb hd rfl hl.has hok.2 rfl (fun ls' hl' => hKk _ _ _ _ _ _ _ h (a_lo.s1 (v := .int _) hl.2.2.1 hl') hP hS)
    · cases h
  case lstore k =>
    simp only [a_ok, Bool.and_eq_true, decide_eq_true_eq] at hok
    obtain rfl := Nat.eq_of_beq_eq_true hok.1.1
    obtain rfl := Nat.eq_of_beq_eq_true hok.1.2
    simp only [a_stp] at h
    split at h
    · exact lv_lstore hx hb hd hl.has hok.2 rfl (fun ls' hl' => hKk _ _ _ _ _ _ _ h (a_lo.s2 (v := .long _) hl.2.2.1 hl') hP hS)
    · cases h
  case lstore_n k =>
    simp only [a_ok, Bool.and_eq_true, decide_eq_true_eq] at hok
    obtain rfl := Nat.eq_of_beq_eq_true hok.1.1
    obtain rfl := Nat.eq_of_beq_eq_true hok.1.2
    simp only [a_stp] at h
    split at h
    · exact lv_lstore_n hx hb hd rfl hl.has hok.2 rfl (fun ls' hl' => hKk _ _ _ _ _ _ _ h (a_lo.s2 (v := .long _) hl.2.2.1 hl') hP hS)
    · cases h
  case astore k =>
    simp only [a_ok, Bool.and_eq_true, decide_eq_true_eq] at hok
    obtain rfl := Nat.eq_of_beq_eq_true hok.1.1
    obtain rfl := Nat.eq_of_beq_eq_true hok.1.2
    simp only [a_stp] at h
    split at h
    · exact lv_astore hx hb hd hl.has hok.2 rfl (fun ls' hl' => hKk _ _ _ _ _ _ _ h (a_lo.s1 (v := .ref _) hl.2.2.1 hl') hP hS)
    · cases h
  case astore_n k =>
    simp only [a_ok, Bool.and_eq_true, decide_eq_true_eq] at hok
    obtain rfl := Nat.eq_of_beq_eq_true hok.1.1
    obtain rfl := Nat.eq_of_beq_eq_true hok.1.2
    simp only [a_stp] at h
    split at h
    · exact lv_astore_n hx hb hd rfl hl.has hok.2 rfl (fun ls' hl' => hKk _ _ _ _ _ _ _ h (a_lo.s1 (v := .ref _) hl.2.2.1 hl') hP hS)
    · cases h
  case iinc k n =>
    simp only [a_ok, Bool.and_eq_true, decide_eq_true_eq] at hok
    obtain rfl := Nat.eq_of_beq_eq_true hok.1.1.1
    obtain rfl := Nat.eq_of_beq_eq_true hok.1.1.2
    simp only [a_stp] at h
    split at h
    · rename_i a ha
      obtain ⟨j, hj⟩ := List.getElem?_of_mem (a_pl_mem.mpr ⟨_, a_lk_some ha (by simp), by simp, rfl⟩ : (k, a_cv ad (.int a)) ∈ a_pl ad L)
      exact lv_iinc (x := a) (v := a + v) hx hb hd hl.has hj (by rw [hok.1.2]) hok.2 rfl (fun ls' hl' => hKk _ _ _ _ _ _ _ h (a_lo.s1 (v := .int _) hl.2.2.1 hl') hP hS)
    · cases h
  case iadd =>
    obtain rfl := Nat.eq_of_beq_eq_true hok
    simp only [a_stp] at h
    split at h
    · exact lv_iadd hx hb hd (hKk _ _ _ _ _ _ _ h hl hP hS)
    · cases h
  case isub =>
    obtain rfl := Nat.eq_of_beq_eq_true hok
    simp only [a_stp] at h
    split at h
    · exact lv_isub hx hb hd (hKk _ _ _ _ _ _ _ h hl hP hS)
    · cases h
  case imul =>
    obtain rfl := Nat.eq_of_beq_eq_true hok
    simp only [a_stp] at h
    split at h
    · exact lv_imul hx hb hd (hKk _ _ _ _ _ _ _ h hl hP hS)
    · cases h
  case iand =>
    obtain rfl := Nat.eq_of_beq_eq_true hok
    simp only [a_stp] at h
    split at h
    · exact lv_iand hx hb hd (hKk _ _ _ _ _ _ _ h hl hP hS)
    · cases h
  case ior =>
    obtain rfl := Nat.eq_of_beq_eq_true hok
    simp only [a_stp] at h
    split at h
    · exact lv_ior hx hb hd (hKk _ _ _ _ _ _ _ h hl hP hS)
    · cases h
  case idiv =>
    obtain rfl := Nat.eq_of_beq_eq_true hok
    simp only [a_stp] at h
    split at h
    · split at h
      · cases h
      · rename_i hne
        exact lv_idiv hx hb hd hne (hKk _ _ _ _ _ _ _ h hl hP hS)
    · cases h
  case irem =>
    obtain rfl := Nat.eq_of_beq_eq_true hok
    simp only [a_stp] at h
    split at h
    · split at h
      · cases h
      · rename_i hne
        exact lv_irem hx hb hd hne (hKk _ _ _ _ _ _ _ h hl hP hS)
    · cases h
  case ishl =>
    obtain rfl := Nat.eq_of_beq_eq_true hok
    simp only [a_stp] at h
    split at h
    · exact lv_ishl hx hb hd (hKk _ _ _ _ _ _ _ h hl hP hS)
    · cases h
  case ishr =>
    obtain rfl := Nat.eq_of_beq_eq_true hok
    simp only [a_stp] at h
    split at h
    · exact lv_ishr hx hb hd (hKk _ _ _ _ _ _ _ h hl hP hS)
    · cases h
  case ladd =>
    obtain rfl := Nat.eq_of_beq_eq_true hok
    simp only [a_stp] at h
    split at h
    · exact lv_ladd hx hb hd (hKk _ _ _ _ _ _ _ h hl hP hS)
    · cases h
  case land =>
    obtain rfl := Nat.eq_of_beq_eq_true hok
    simp only [a_stp] at h
    split at h
    · exact lv_land hx hb hd (hKk _ _ _ _ _ _ _ h hl hP hS)
    · cases h
  case lor =>
    obtain rfl := Nat.eq_of_beq_eq_true hok
    simp only [a_stp] at h
    split at h
    · exact lv_lor hx hb hd (hKk _ _ _ _ _ _ _ h hl hP hS)
    · cases h
  case lshl =>
    obtain rfl := Nat.eq_of_beq_eq_true hok
    simp only [a_stp] at h
    split at h
    · exact lv_lshl hx hb hd rfl (hKk _ _ _ _ _ _ _ h hl hP hS)
    · cases h
  case lshr =>
    obtain rfl := Nat.eq_of_beq_eq_true hok
    simp only [a_stp] at h
    split at h
    · exact lv_lshr hx hb hd rfl (hKk _ _ _ _ _ _ _ h hl hP hS)
    · cases h
  case i2l =>
    obtain rfl := Nat.eq_of_beq_eq_true hok
    simp only [a_stp] at h
    split at h
    · exact lv_i2l hx hb hd rfl (hKk _ _ _ _ _ _ _ h hl hP hS)
    · cases h
  case l2i =>
    obtain rfl := Nat.eq_of_beq_eq_true hok
    simp only [a_stp] at h
    split at h
    · exact lv_l2i hx hb hd rfl (hKk _ _ _ _ _ _ _ h hl hP hS)
    · cases h
  case lcmp =>
    obtain rfl := Nat.eq_of_beq_eq_true hok
    simp only [a_stp] at h
    split at h
    · exact W.lcmp hx hb hd (hKk _ _ _ _ _ _ _ h hl hP hS)
    · cases h
  case dup =>
    obtain rfl := Nat.eq_of_beq_eq_true hok
    simp only [a_stp] at h
    split at h
    · rename_i v0 r
      cases hv0 : a_isl v0 with
      | true => rw [hv0] at h; cases h
      | false =>
        rw [hv0] at h
        exact lv_dup hx hb hd (by rw [a_cv_cat]; exact a_isl_1 hv0) (hKk _ _ _ _ _ _ _ h hl hP hS)
    · cases h
  case dup2 =>
    obtain rfl := Nat.eq_of_beq_eq_true hok
    simp only [a_stp] at h
    split at h
    · rename_i v0 v1 r
      cases hv0 : (a_isl v0 || a_isl v1) with
      | true => rw [hv0] at h; cases h
      | false =>
        rw [hv0] at h
        simp only [Bool.or_eq_false_iff] at hv0
        exact lv_dup2_11 hx hb hd (by rw [a_cv_cat]; exact a_isl_1 hv0.1) (by rw [a_cv_cat]; exact a_isl_1 hv0.2) (hKk _ _ _ _ _ _ _ h hl hP hS)
    · cases h
  case pop =>
    obtain rfl := Nat.eq_of_beq_eq_true hok
    simp only [a_stp] at h
    split at h
    · rename_i v0 r
      cases hv0 : a_isl v0 with
      | true => rw [hv0] at h; cases h
      | false =>
        rw [hv0] at h
        exact lv_pop hx hb hd (by rw [a_cv_cat]; exact a_isl_1 hv0) (hKk _ _ _ _ _ _ _ h hl hP hS)
    · cases h
  case ifCond cd off =>
    simp only [a_ok, Bool.and_eq_true, decide_eq_true_eq] at hok
    obtain rfl := Nat.eq_of_beq_eq_true hok.1
    simp only [a_stp] at h
    split at h
    · rename_i a r
      cases cd <;> simp only [a_if] at h
      · refine lv_if_eq hx hb hd hok.2 (fun q => ?_) (fun q => ?_)
        · rw [if_pos q] at h; exact hKk _ _ _ _ _ _ _ h hl hP hS
        · rw [if_neg q] at h; exact hKk _ _ _ _ _ _ _ h hl hP hS
      · refine lv_if_ne hx hb hd hok.2 (fun q => ?_) (fun q => ?_)
        · rw [if_neg q] at h; exact hKk _ _ _ _ _ _ _ h hl hP hS
        · rw [if_pos q] at h; exact hKk _ _ _ _ _ _ _ h hl hP hS
      · refine lv_if_lt hx hb hd hok.2 (fun q => ?_) (fun q => ?_)
        · rw [if_pos q] at h; exact hKk _ _ _ _ _ _ _ h hl hP hS
        · rw [if_neg q] at h; exact hKk _ _ _ _ _ _ _ h hl hP hS
      · refine lv_if_ge hx hb hd hok.2 (fun q => ?_) (fun q => ?_)
        · rw [if_neg (Int32.not_lt.mpr q)] at h; exact hKk _ _ _ _ _ _ _ h hl hP hS
        · rw [if_pos (Int32.not_le.mp q)] at h; exact hKk _ _ _ _ _ _ _ h hl hP hS
      · refine lv_if_gt hx hb hd hok.2 (fun q => ?_) (fun q => ?_)
        · rw [if_pos q] at h; exact hKk _ _ _ _ _ _ _ h hl hP hS
        · rw [if_neg q] at h; exact hKk _ _ _ _ _ _ _ h hl hP hS
      · refine lv_if_le hx hb hd hok.2 (fun q => ?_) (fun q => ?_)
        · rw [if_neg (Int32.not_lt.mpr q)] at h; exact hKk _ _ _ _ _ _ _ h hl hP hS
        · rw [if_pos (Int32.not_le.mp q)] at h; exact hKk _ _ _ _ _ _ _ h hl hP hS
    · cases h
  case if_icmp cd off =>
    simp only [a_ok, Bool.and_eq_true, decide_eq_true_eq] at hok
    obtain rfl := Nat.eq_of_beq_eq_true hok.1
    simp only [a_stp] at h
    split at h
    · rename_i b a r
      cases cd <;> simp only [a_if] at h
      · refine lv_icmp_eq hx hb hd hok.2 (fun q => ?_) (fun q => ?_)
        · rw [if_pos q] at h; exact hKk _ _ _ _ _ _ _ h hl hP hS
        · rw [if_neg q] at h; exact hKk _ _ _ _ _ _ _ h hl hP hS
      · refine lv_icmp_ne hx hb hd hok.2 (fun q => ?_) (fun q => ?_)
        · rw [if_neg q] at h; exact hKk _ _ _ _ _ _ _ h hl hP hS
        · rw [if_pos q] at h; exact hKk _ _ _ _ _ _ _ h hl hP hS
      · refine lv_icmp_lt hx hb hd hok.2 (fun q => ?_) (fun q => ?_)
        · rw [if_pos q] at h; exact hKk _ _ _ _ _ _ _ h hl hP hS
        · rw [if_neg q] at h; exact hKk _ _ _ _ _ _ _ h hl hP hS
      · refine lv_icmp_ge hx hb hd hok.2 (fun q => ?_) (fun q => ?_)
        · rw [if_neg (Int32.not_lt.mpr q)] at h; exact hKk _ _ _ _ _ _ _ h hl hP hS
        · rw [if_pos (Int32.not_le.mp q)] at h; exact hKk _ _ _ _ _ _ _ h hl hP hS
      · refine lv_icmp_gt hx hb hd hok.2 (fun q => ?_) (fun q => ?_)
        · rw [if_pos q] at h; exact hKk _ _ _ _ _ _ _ h hl hP hS
        · rw [if_neg q] at h; exact hKk _ _ _ _ _ _ _ h hl hP hS
      · refine lv_icmp_le hx hb hd hok.2 (fun q => ?_) (fun q => ?_)
        · rw [if_neg (Int32.not_lt.mpr q)] at h; exact hKk _ _ _ _ _ _ _ h hl hP hS
        · rw [if_pos (Int32.not_le.mp q)] at h; exact hKk _ _ _ _ _ _ _ h hl hP hS
    · cases h
  case goto off =>
    simp only [a_ok, Bool.and_eq_true, decide_eq_true_eq] at hok
    obtain rfl := Nat.eq_of_beq_eq_true hok.2
    exact lv_goto hx hb hd hok.1 (hKk _ _ _ _ _ _ _ h hl hP hS)
  case getfield idx =>
    simp only [a_ok, Bool.and_eq_true, decide_eq_true_eq] at hok
    obtain rfl := Nat.eq_of_beq_eq_true hok.1
    obtain ⟨C, T, N, ty0, hcl, rfl, hyN, hin, hty, hnm, hC, hfk, hlink⟩ := hft _ hok.2
    dsimp only at hcl hyN hin hty hnm hC hfk hlink
    simp only [a_stp] at h
    split at h
    · rename_i k r
      split at h
      · rename_i u hu
        unfold a_gf at hu
        split at hu
        · rename_i ci hds
          have hk := a_ds_lt hds (by decide)
          cases hbq : Nat.beq ci x with
          | false => rw [hbq] at hu; cases hu
          | true =>
            rw [hbq] at hu
            obtain rfl := Nat.eq_of_beq_eq_true hbq
            have hen : (a_ws cI cZ cJ ad S)[k]? = some (ad k, .inr (ci, (List.range (a_nf ci)).map (a_fv ad S k ci))) := by
              rw [a_ws_at hk]; simp only [a_en, hds]
            have hval : ((List.range (a_nf ci)).map (a_fv ad S k ci))[y]? = some (a_cv ad u) := by
              have h1 : a_fv ad S k ci y = a_cv ad u := by
                unfold a_fv
                dsimp only [cond] at hu
                split at hu
                · rename_i hq; cases hu; rw [hq]; rfl
                · rename_i hq; cases hu; rw [hq]; rfl
                · rename_i hq; cases hu; rw [hq]; rfl
                · rename_i hq; cases hu; rw [hq]; rfl
                · cases hu
              simp [hyN, h1]
            rcases hlink with hlink | ⟨host, hlink⟩
            · exact va_get hx hb hts hin hown hK hP k hen hcl y hyN (hts _ (a_inT hlink rfl)) (fun z hz => by rw [← hC]; exact hz) hval hd (hKk _ _ _ _ _ _ _ h hl hP hS)
            · exact va_getN hx hb hts hin hown hK hP k hen hcl y hyN (va_Nw.use rfl (hnw _ (a_inN hlink rfl))) (fun z hz => by rw [← hC]; exact hz) hval hd (hKk _ _ _ _ _ _ _ h hl hP hS)
        · cases hu
      · cases h
    · cases h
  case putfield idx =>
    simp only [a_ok, Bool.and_eq_true, decide_eq_true_eq] at hok
    obtain rfl := Nat.eq_of_beq_eq_true hok.1
    obtain ⟨C, T, N, ty0, hcl, rfl, hyN, hin, hty, hnm, hC, hfk, hlink⟩ := hft _ hok.2
    dsimp only at hcl hyN hin hty hnm hC hfk hlink
    simp only [a_stp] at h
    split at h
    · rename_i v0 k r
      unfold a_pf at h
      split at h
      · rename_i ci hds
        have hk := a_ds_lt hds (by decide)
        cases hbq : Nat.beq ci x with
        | false => rw [hbq] at h; cases h
        | true =>
          rw [hbq] at h
          obtain rfl := Nat.eq_of_beq_eq_true hbq
          have hen : ∀ S : a_M, (a_ws cI cZ cJ ad S)[k]? = some (ad k, .inr (ci, (List.range (a_nf ci)).map (a_fv ad S k ci))) := by
            intro S
            rw [a_ws_at hk]; simp only [a_en, hds]
          have hei : ∀ (S : a_M), a_en cI cZ cJ ad S k = .inr (ci, (List.range (a_nf ci)).map (a_fv ad S k ci)) := by
            intro S; simp only [a_en, hds]
          have put : ∀ (u : Value) (ty : FieldType) (S' : a_M), ty0 y = ty → (T y).2.2.2 = false → narrow ty u = u → fits ty u = true → (a_ws cI cZ cJ ad S).set k (ad k, .inr (ci, ((List.range (a_nf ci)).map (a_fv ad S k ci)).set y u)) = a_ws cI cZ cJ ad S' → K (pc + 3) L r S' = some o → W p l en R s m args below meth c H locs ce sl Q (F0 m pc ls (u :: .ref (ad k) :: r.map (a_cv ad))) := by
            intro u ty S' hty1 hfin hn hfit hset hk'
            rcases hlink with hlink | ⟨host, hlink⟩
            · exact va_put hx hb hts hin ty0 hty hnm hown hK hP hD hS k (hen S) hcl y hyN (hts _ (a_inT hlink rfl)) (fun z hz => by rw [← hC]; exact hz) hfin (by rw [hty y hyN, hty1]) hn hfit (by simpa using hyN) hd (fun H1 locs1 hP1 hD1 hS1 => hKk _ _ _ _ _ _ _ hk' hl (by rw [hset] at hP1; exact hP1) hS1)
            · exact va_putN hx hb hts hin ty0 hty hnm hown hK hP hD hS k (hen S) hcl y hyN (va_Nw.use rfl (hnw _ (a_inN hlink rfl))) (fun z hz => by rw [← hC]; exact hz) hfin (by rw [hty y hyN, hty1]) hn hfit (by simpa using hyN) hd (fun H1 locs1 hP1 hD1 hS1 => hKk _ _ _ _ _ _ _ hk' hl (by rw [hset] at hP1; exact hP1) hS1)
          dsimp only [cond] at h
          split at h
          · rename_i a hq
            rcases hfk with hfk | ⟨hfin, ⟨hf, ht⟩ | ⟨hf, -⟩ | ⟨hf, -⟩⟩
            · rw [hq] at hfk; cases hfk
            · exact put (.int a) .int _ ht hfin rfl rfl (by rw [a_fs_i (Or.inl hq), ← hei]; exact a_ws_set a_en_wi) h
            · rw [hq] at hf; cases hf
            · rw [hq] at hf; cases hf
          · rename_i a hq
            rcases hfk with hfk | ⟨hfin, ⟨hf, -⟩ | ⟨hf, ht⟩ | ⟨hf, -⟩⟩
            · rw [hq] at hfk; cases hfk
            · rw [hq] at hf; cases hf
            · exact put (.long a) .long _ ht hfin rfl rfl (by rw [a_fs_l hq, ← hei]; exact a_ws_set a_en_wl) h
            · rw [hq] at hf; cases hf
          · rename_i a hq
            rcases hfk with hfk | ⟨hfin, ⟨hf, -⟩ | ⟨hf, -⟩ | ⟨hf, ht⟩⟩
            · rw [hq] at hfk; cases hfk
            · rw [hq] at hf; cases hf
            · rw [hq] at hf; cases hf
            · split at h
              · rename_i h01
                rcases h01 with rfl | rfl
                · exact put (.int 0) .boolean _ ht hfin (by decide) (by decide) (by rw [a_fs_i (Or.inr hq), ← hei]; exact a_ws_set a_en_wi) h
                · exact put (.int 1) .boolean _ ht hfin (by decide) (by decide) (by rw [a_fs_i (Or.inr hq), ← hei]; exact a_ws_set a_en_wi) h
              · cases h
          · cases h
      · cases h
    · cases h
  case iaload =>
    obtain rfl := Nat.eq_of_beq_eq_true hok
    simp only [a_stp] at h
    split at h
    · rename_i j k r
      unfold a_ald at h
      split at h
      · rename_i n hds
        have hk := a_ds_lt hds (by decide)
        split at h
        · cases h
        · rename_i hin
          exact va_iald (n := n) (f := S.1 k) hx hb hK hP k 0 (by rw [a_ws_at hk]; simp only [a_en, hds]) rfl hin hd (hKk _ _ _ _ _ _ _ h hl hP hS)
      · rename_i hds
        have hk : k = 103 := by
          rcases Nat.lt_or_ge k 103 with h1 | h1
          · have h4 : ∀ k, k < 103 → (a_ds k).1 < 4 := by decide +kernel
            have h5 := h4 k h1
            rw [hds] at h5; exact absurd (show 4 < 4 from h5) (by decide)
          · rcases Nat.lt_or_ge 103 k with h2 | h2
            · have hbl : Nat.ble k 103 = false := by
                cases hq : Nat.ble k 103
                · rfl
                · exact absurd (Nat.le_of_ble_eq_true hq) (Nat.not_le.mpr h2)
              unfold a_ds at hds
              rw [hbl] at hds
              cases hds
            · exact Nat.le_antisymm h2 h1
        subst hk
        cases hsq : sc with
        | none => rw [hsq] at h; cases h
        | some q =>
          obtain ⟨n, f⟩ := q
          rw [hsq] at h
          dsimp only at h
          obtain ⟨hX, hbl, hnA⟩ := hsc _ hsq
          split at h
          · cases h
          · rename_i hin
            exact va_sld hx hb hX hbl hnA hS hin hd (hKk _ _ _ _ _ _ _ h hl hP hS)
      · cases h
    · cases h
  case baload =>
    obtain rfl := Nat.eq_of_beq_eq_true hok
    simp only [a_stp] at h
    split at h
    · rename_i j k r
      unfold a_zld at h
      split at h
      · rename_i n hds
        have hk := a_ds_lt hds (by decide)
        split at h
        · cases h
        · rename_i hin
          exact va_zald (n := n) (f := S.1 k) hx hb hK hP k 1 (by rw [a_ws_at hk]; simp only [a_en, hds]) rfl hin hd (hKk _ _ _ _ _ _ _ h hl hP hS)
      · cases h
    · cases h
  case laload =>
    obtain rfl := Nat.eq_of_beq_eq_true hok
    simp only [a_stp] at h
    split at h
    · rename_i j k r
      unfold a_lld at h
      split at h
      · rename_i n hds
        have hk := a_ds_lt hds (by decide)
        split at h
        · cases h
        · rename_i hin
          exact va_lald (n := n) (f := S.2 k) hx hb hK hP k 2 (by rw [a_ws_at hk]; simp only [a_en, hds]) rfl hin hd (hKk _ _ _ _ _ _ _ h hl hP hS)
      · cases h
    · cases h
  case iastore =>
    obtain rfl := Nat.eq_of_beq_eq_true hok
    simp only [a_stp] at h
    split at h
    · rename_i u j k r
      unfold a_ast at h
      split at h
      · rename_i n hds
        have hk := a_ds_lt hds (by decide)
        split at h
        · cases h
        · rename_i hin
          exact va_iast (n := n) (f := S.1 k) hx hb hK hP hD hS k 0 (by rw [a_ws_at hk]; simp only [a_en, hds]) rfl hin hd (fun H1 locs1 hP1 hD1 hS1 => hKk _ _ _ _ _ _ _ h hl (by
            have hei : a_en cI cZ cJ ad (a_wi S k j.toNatClampNeg u) k = .inl (cI, n, .inl (upd (S.1 k) j.toNatClampNeg u)) := by simp only [a_en, hds, a_wi_k]
            rw [← hei, a_ws_set a_en_wi] at hP1; exact hP1) hS1)
      · cases h
    · cases h
  case bastore =>
    obtain rfl := Nat.eq_of_beq_eq_true hok
    simp only [a_stp] at h
    split at h
    · rename_i u j k r
      unfold a_zst at h
      split at h
      · rename_i n hds
        have hk := a_ds_lt hds (by decide)
        split at h
        · cases h
        · rename_i hin
          exact va_zast (n := n) (f := S.1 k) hx hb hK hP hD hS k 1 (by rw [a_ws_at hk]; simp only [a_en, hds]) rfl hin hd (fun H1 locs1 hP1 hD1 hS1 => hKk _ _ _ _ _ _ _ h hl (by
            have hei : a_en cI cZ cJ ad (a_wi S k j.toNatClampNeg (vp_nar .boolean u)) k = .inl (cZ, n, .inl (upd (S.1 k) j.toNatClampNeg (vp_nar .boolean u))) := by simp only [a_en, hds, a_wi_k]
            rw [← hei, a_ws_set a_en_wi] at hP1; exact hP1) hS1)
      · cases h
    · cases h
  case lastore =>
    obtain rfl := Nat.eq_of_beq_eq_true hok
    simp only [a_stp] at h
    split at h
    · rename_i u j k r
      unfold a_lst at h
      split at h
      · rename_i n hds
        have hk := a_ds_lt hds (by decide)
        split at h
        · cases h
        · rename_i hin
          exact va_last (n := n) (f := S.2 k) hx hb hK hP hD hS k 2 (by rw [a_ws_at hk]; simp only [a_en, hds]) rfl hin hd (fun H1 locs1 hP1 hD1 hS1 => hKk _ _ _ _ _ _ _ h hl (by
            have hei : a_en cI cZ cJ ad (a_wl S k j.toNatClampNeg u) k = .inl (cJ, n, .inr (.inl (vp_updL (S.2 k) j.toNatClampNeg u))) := by simp only [a_en, hds, a_wl_k]
            rw [← hei, a_ws_set a_en_wl] at hP1; exact hP1) hS1)
      · cases h
    · cases h
  case arraylength =>
    obtain rfl := Nat.eq_of_beq_eq_true hok
    simp only [a_stp] at h
    split at h
    · rename_i k r
      split at h
      · rename_i u hu
        unfold a_len at hu
        split at hu
        · rename_i n hds
          have hk := a_ds_lt hds (by decide)
          cases hu
          exact va_alen (x := (n, .inl (S.1 k))) hx hb hK hP k 0 (by rw [a_ws_at hk]; simp only [a_en, hds]) rfl rfl hd (hKk _ _ _ _ _ _ _ h hl hP hS)
        · rename_i n hds
          have hk := a_ds_lt hds (by decide)
          cases hu
          exact va_alen (x := (n, .inl (S.1 k))) hx hb hK hP k 1 (by rw [a_ws_at hk]; simp only [a_en, hds]) rfl rfl hd (hKk _ _ _ _ _ _ _ h hl hP hS)
        · rename_i n hds
          have hk := a_ds_lt hds (by decide)
          cases hu
          exact va_alen (x := (n, .inr (.inl (S.2 k)))) hx hb hK hP k 2 (by rw [a_ws_at hk]; simp only [a_en, hds]) rfl rfl hd (hKk _ _ _ _ _ _ _ h hl hP hS)
        · rename_i hds
          have hk : k = 103 := by
            rcases Nat.lt_or_ge k 103 with h1 | h1
            · have h4 : ∀ k, k < 103 → (a_ds k).1 < 4 := by decide +kernel
              have h5 := h4 k h1
              rw [hds] at h5; exact absurd (show 4 < 4 from h5) (by decide)
            · rcases Nat.lt_or_ge 103 k with h2 | h2
              · have hbl : Nat.ble k 103 = false := by
                  cases hq : Nat.ble k 103
                  · rfl
                  · exact absurd (Nat.le_of_ble_eq_true hq) (Nat.not_le.mpr h2)
                unfold a_ds at hds
                rw [hbl] at hds
                cases hds
              · exact Nat.le_antisymm h2 h1
          subst hk
          cases hsq : sc with
          | none => rw [hsq] at hu; cases hu
          | some q =>
            obtain ⟨n, f⟩ := q
            rw [hsq] at hu
            cases hu
            obtain ⟨hX, hbl, hnA⟩ := hsc _ hsq
            exact va_slen hx hb hX hbl hnA hS hd (hKk _ _ _ _ _ _ _ h hl hP hS)
        · cases hu
      · cases h
    · cases h
  case tableswitch d lo hi offs =>
    simp only [a_ok, Bool.and_eq_true, decide_eq_true_eq] at hok
    simp only [a_stp] at h
    split at h
    · rename_i a r
      exact a_sw_W hx hb hd hok.1 (fun t ht => hKk _ _ _ _ _ _ _ ht hl hP hS) sw 0 hok.2 (by omega) h
    · cases h
  case invokevirtual idx =>
    simp only [a_ok, Bool.and_eq_true, decide_eq_true_eq] at hok
    exact callx idx 0 (Or.inl ⟨rfl, rfl⟩) (Nat.eq_of_beq_eq_true hok.1) hok.2 h
  case invokestatic idx =>
    simp only [a_ok, Bool.and_eq_true, decide_eq_true_eq] at hok
    exact callx idx 1 (Or.inr (Or.inl ⟨rfl, rfl⟩)) (Nat.eq_of_beq_eq_true hok.1) hok.2 h
  case invokespecial idx =>
    simp only [a_ok, Bool.and_eq_true, decide_eq_true_eq] at hok
    exact callx idx 2 (Or.inr (Or.inr ⟨rfl, rfl⟩)) (Nat.eq_of_beq_eq_true hok.1) hok.2 h
  case ireturn =>
    simp only [a_ok, Bool.and_eq_true] at hok
    obtain rfl := Nat.eq_of_beq_eq_true hok.1
    simp only [a_stp, Option.map_eq_some_iff] at h
    obtain ⟨r, hr, rfl⟩ := h
    exact hret _ y _ _ _ r _ _ hd hok.2 hr rfl hP hS
  case lreturn =>
    simp only [a_ok, Bool.and_eq_true] at hok
    obtain rfl := Nat.eq_of_beq_eq_true hok.1
    simp only [a_stp, Option.map_eq_some_iff] at h
    obtain ⟨r, hr, rfl⟩ := h
    exact hret _ y _ _ _ r _ _ hd hok.2 hr rfl hP hS
  case areturn =>
    simp only [a_ok, Bool.and_eq_true] at hok
    obtain rfl := Nat.eq_of_beq_eq_true hok.1
    simp only [a_stp, Option.map_eq_some_iff] at h
    obtain ⟨r, hr, rfl⟩ := h
    exact hret _ y _ _ _ r _ _ hd hok.2 hr rfl hP hS
  case return_ =>
    simp only [a_ok, Bool.and_eq_true] at hok
    obtain rfl := Nat.eq_of_beq_eq_true hok.1
    simp only [a_stp, Option.map_eq_some_iff] at h
    obtain ⟨r, hr, rfl⟩ := h
    exact hret _ y _ _ _ r _ _ hd hok.2 hr rfl hP hS
  all_goals (simp only [a_stp] at h; cases h)
end ASTEP2
end
section
/-! ===== methods and calls ===== -/
def a_pad (vs : List Value) : List Value := vs.flatMap (fun v => bif a_isl v then [v, .null] else [v])
def a_in (nL : Nat) (vs : List Value) : List Value := a_pad vs ++ List.replicate (nL - a_cats vs) .null
def a_rcv : Option Nat → List Value → Bool
  | none, _ => true
  | some ci, .ref k :: _ => (match a_ds k with
    | (0, c) => Nat.beq c ci
    | _ => false)
  | some _, _ => false
/-- a method as a function: of its receiver's class, its locals, its table, what it calls -/
noncomputable def a_fn (ci : Option Nat) (nL : Nat) (tab : Nat → Option a_E) (cb : a_C) : a_F := fun vs S => bif a_rcv ci vs && Nat.ble (a_cats vs) nL then a_G none tab cb 0 (a_in nL vs) [] S else none
def a_Fr (ad : Nat → Nat) : Nat → Prop := fun q => ∃ k, k < 103 ∧ q = ad k
abbrev a_tys (cI cZ cJ : ClassId) : List (ClassId × FieldType) := [(cI, .int), (cZ, .boolean), (cJ, .long)]
def a_Pc (dC : Nat → ClassId) (dI : Nat → Nat → Nat) (cI cZ cJ : ClassId) (ad : Nat → Nat) (vs : List Value) (S : a_M) : Array Value → State → Prop := fun v U => v = (vs.map (a_cv ad)).toArray ∧ va_P (dC, dI) vwCl (a_ws cI cZ cJ ad S) U.heap ∧ va_K (dC, dI) vwCl (a_tys cI cZ cJ) U ∧ ∀ w ∈ a_N, va_Nw w U
def a_Qc (dC : Nat → ClassId) (dI : Nat → Nat → Nat) (cI cZ cJ : ClassId) (ad : Nat → Nat) (q : a_O) : Array Value → State → Outcome → State → Prop := fun _ st oc t => oc = .returned (q.1.map (a_cv ad)) ∧ va_P (dC, dI) vwCl (a_ws cI cZ cJ ad q.2) t.heap ∧ va_K (dC, dI) vwCl (a_tys cI cZ cJ) t ∧ va_F (a_Fr ad) st t
def a_ws0 (y : MethodName) (cc : ByteArray) (nL : Nat) (ret : Option FieldType) : List Jvm.Cond := Jvm.Cond.code y cc nL ret :: a_T
/-- what is proved of a method -/
def a_Mt (l : Launch) (y : MethodName) (cc : ByteArray) (nL : Nat) (ret : Option FieldType) (fr lo : Nat) (f : a_F) : Prop :=
  ∀ (dC : Nat → ClassId) (dI : Nat → Nat → Nat) (cI cZ cJ : ClassId) (ad : Nat → Nat), (∀ i j, i < 103 → j < 103 → ad i = ad j → i = j) → ∀ (vs : List Value) (S : a_M) (q : a_O), f vs S = some q →
    Met l y (a_ws0 y cc nL ret) { frames := fr, cells := 0, slots := 0, locals := lo } (a_Pc dC dI cI cZ cJ ad vs S) (a_Qc dC dI cI cZ cJ ad q) 0 0 (a_Fr ad)
theorem a_sl_len (ad : Nat → Nat) (vs : List Value) : (lg_sl (vs.map (a_cv ad))).length = a_cats vs := by
  induction vs with
  | nil => rfl
  | cons v l ih =>
    have h1 : lg_sl ((v :: l).map (a_cv ad)) = (if (a_cv ad v).category = 2 then [Slot.val (a_cv ad v), .second] else [.val (a_cv ad v)]) ++ lg_sl (l.map (a_cv ad)) := by
      simp [lg_sl]
    rw [h1, List.length_append, ih, a_cats, a_cv_cat]
    cases v <;> rfl
theorem a_pad_len (vs : List Value) : (a_pad vs).length = a_cats vs := by
  induction vs with
  | nil => rfl
  | cons v l ih =>
    have h1 : a_pad (v :: l) = (bif a_isl v then [v, .null] else [v]) ++ a_pad l := by simp [a_pad]
    rw [h1, List.length_append, ih, a_cats]
    cases a_isl v <;> rfl
theorem a_pad_at (ad : Nat → Nat) (vs : List Value) : ∀ (n i : Nat) (v : Value), (a_pad vs)[i]? = some v → v ≠ .null → (n + i, a_cv ad v) ∈ lv_args n (vs.map (a_cv ad)) := by
  induction vs with
  | nil => intro n i v h _; simp [a_pad] at h
  | cons u l ih =>
    intro n i v h hv
    have h1 : a_pad (u :: l) = (bif a_isl u then [u, .null] else [u]) ++ a_pad l := by simp [a_pad]
    rw [h1] at h
    rw [List.map_cons]
    simp only [lv_args, a_cv_cat]
    cases hu : a_isl u with
    | true =>
      rw [hu] at h
      rw [if_pos ((a_isl_cat u).mp hu)]
      match i, h with
      | 0, h => simp at h; subst h; exact List.mem_cons_self
      | 1, h => simp at h; exact absurd h.symm hv
      | i + 2, h =>
        simp at h
        have := ih (n + 2) i v h hv
        rw [show n + 2 + i = n + (i + 2) by omega] at this
        exact List.mem_cons_of_mem _ this
    | false =>
      rw [hu] at h
      rw [if_neg (fun q => by rw [(a_isl_cat u).mpr q] at hu; cases hu)]
      match i, h with
      | 0, h => simp at h; subst h; exact List.mem_cons_self
      | i + 1, h =>
        simp at h
        have := ih (n + 1) i v h hv
        rw [show n + 1 + i = n + (i + 1) by omega] at this
        exact List.mem_cons_of_mem _ this
theorem a_lo_in {ad : Nat → Nat} {nL : Nat} {vs : List Value} (h : a_cats vs ≤ nL) : a_lo ad (lg_sl (vs.map (a_cv ad)) ++ List.replicate (nL - (lg_sl (vs.map (a_cv ad))).length) Slot.unset).toArray nL (a_in nL vs) := by
  have hl := lv_entry (vs.map (a_cv ad)) (n := nL) (by rw [a_sl_len]; exact h)
  refine ⟨hl.1, hl.2.1, ?_, fun i v hi hv => ?_⟩
  · simp only [a_in, List.length_append, a_pad_len, List.length_replicate]; omega
  · unfold a_in at hi
    by_cases hlt : i < (a_pad vs).length
    · rw [List.getElem?_append_left hlt] at hi
      have := a_pad_at ad vs 0 i v hi hv
      rw [Nat.zero_add] at this
      exact hl.2.2 (i, a_cv ad v) this
    · rw [List.getElem?_append_right (by omega)] at hi
      rw [List.getElem?_replicate] at hi
      split at hi
      · cases hi; exact absurd rfl hv
      · cases hi
section ASOUND
variable {p : Program} {l : Launch} {en : Env} {R : Room} {s : State} {m : MethodId} {args : Array Value} {below : List Frame} {meth : Method} {c : Code} {Q : State → Prop}
variable {dC : Nat → ClassId} {dI : Nat → Nat → Nat} {cI cZ cJ : ClassId} {ad : Nat → Nat} {A : Nat → Prop} {H0 : Heap} {cc : ByteArray} {nL ce sl : Nat} {own : String} {o : a_O} {ret : Option FieldType}
theorem a_sound {ft : List (Nat × Nat × Nat)} {ct : List (Nat × Int32)} {lt : List (Nat × Int64)} {sc : a_Sc} {tab : Nat → Option a_E} {cb : a_C}
    (hcx : CallFix p m c cc nL s args a_T own) (hnw : ∀ w ∈ a_N, va_Nw w s) (hK : va_K (dC, dI) vwCl (a_tys cI cZ cJ) s) (hJ : ∀ i j, i < 103 → j < 103 → ad i = ad j → i = j) (hA : ∀ k, k < 103 → A (ad k))
    (hsc : ∀ q, sc = some q → va_X (ad 103) q.1 q.2 s H0 ∧ ad 103 < H0.size ∧ ¬ A (ad 103))
    (hft : ∀ q ∈ ft, a_CF own q.1 q.2.1 q.2.2) (hct : ∀ q ∈ ct, Jvm.Cond.constant own q.1 q.2 ∈ lw_tbl) (hlt : ∀ q ∈ lt, Jvm.Cond.constantLong own q.1 q.2 ∈ lw_tbl)
    (hcb : ∀ idx kd na f, cb idx = some (kd, na, f) → a_Cl p l en R s m args below meth c Q dC dI cI cZ cJ ad A H0 cc nL ce sl kd idx na f)
    (hret : ∀ (i : Instr) (y pc : Nat) (ls : Array Slot) (st : List Value) (r : Option Value) (H : Heap) (locs : List Loc), decode cc pc = .ok (i, 1) → a_rok i y ret = true → a_rv i y st = some r → r = o.1 → va_P (dC, dI) vwCl (a_ws cI cZ cJ ad o.2) H → va_S A H0 H locs → W p l en R s m args below meth c H locs ce sl Q (F0 m pc ls (st.map (a_cv ad))))
    (htab : ∀ pc e, tab pc = some e → decode cc pc = .ok (e.1, e.2.1) ∧ a_ok ft ct lt (fun i => (cb i).map (fun q => q.1)) ret nL pc e = true) (n : Nat) :
    a_Kok p l en R s m args below meth c Q dC dI cI cZ cJ ad A H0 nL ce sl o (a_ev sc tab cb n) := by
  induction n with
  | zero => intro pc L st S H locs ls h; cases h
  | succ n ih =>
    intro pc L st S H locs ls h hl hP hS
    rw [a_ev_succ] at h
    cases ht : tab pc with
    | none => rw [ht] at h; cases h
    | some e =>
      rw [ht] at h
      obtain ⟨h1, h2⟩ := htab pc e ht
      exact a_step hcx hnw hK hJ hA hsc hft hct hlt hcb hret ih ih h1 h2 h (hl.mk _) hP hS
end ASOUND
/-- a method's table, its calls: what is proved of it -/
theorem a_meth {l : Launch} {y : MethodName} {cc : ByteArray} {nL fr lo : Nat} {ret : Option FieldType} {own : String} {ft : List (Nat × Nat × Nat)} {ct : List (Nat × Int32)} {lt : List (Nat × Int64)} {tab : Nat → Option a_E} {cb : a_C} {ci : Option Nat}
    (hpl : plainName y.cls = true) (hyo : y.cls = own)
    (hft : ∀ q ∈ ft, a_CF own q.1 q.2.1 q.2.2) (hct : ∀ q ∈ ct, Jvm.Cond.constant own q.1 q.2 ∈ lw_tbl) (hlt : ∀ q ∈ lt, Jvm.Cond.constantLong own q.1 q.2 ∈ lw_tbl)
    (htab : ∀ pc e, tab pc = some e → decode cc pc = .ok (e.1, e.2.1) ∧ a_ok ft ct lt (fun i => (cb i).map (fun q => q.1)) ret nL pc e = true)
    (hcb : ∀ (p : Program) (en : Env) (s : State) (m : MethodId) (args : Array Value) (below : List Frame) (meth : Method) (c : Code) (Q : State → Prop) (dC : Nat → ClassId) (dI : Nat → Nat → Nat) (cI cZ cJ : ClassId) (ad : Nat → Nat), CallFix p m c cc nL s args a_T own → (∀ w ∈ a_N, va_Nw w s) → va_K (dC, dI) vwCl (a_tys cI cZ cJ) s → (∀ i j, i < 103 → j < 103 → ad i = ad j → i = j) → ∀ idx kd na f, cb idx = some (kd, na, f) → a_Cl p l en { frames := fr, cells := 0, slots := 0, locals := lo } s m args below meth c Q dC dI cI cZ cJ ad (a_Fr ad) s.heap cc nL 0 0 kd idx na f) :
    a_Mt l y cc nL ret fr lo (a_fn ci nL tab cb) := by
  intro dC dI cI cZ cJ ad hJ vs S q hf
  refine Met.ofW (cc := cc) (maxL := nL) (ret := ret) hpl rfl ?_
  intro p e s m args below meth c s₁ B hml hv
  obtain ⟨rfl, hP, hK, hnw⟩ := hv
  have hts0 := atoms_spec (ws := a_ws0 y cc nL ret) B.pre
  have hts : ∀ w ∈ a_T, w.before (vs.map (a_cv ad)).toArray s = true := fun w hw => hts0 w (List.mem_cons_of_mem _ hw)
  have hown : s.vm.findClass own = some m.cls := by rw [← hyo]; exact findClass_of_methodNamed B.named
  have hcx : CallFix p m c cc nL s (vs.map (a_cv ad)).toArray a_T own := ⟨B.exec, B.bytes, hml, hown, hts⟩
  have hx := B.exec
  have hb := B.bytes
  have hr := B.returns
  have hlocks := B.notSynchronized
  unfold a_fn at hf
  cases hg : (a_rcv ci vs && Nat.ble (a_cats vs) nL) with
  | false => rw [hg] at hf; cases hf
  | true =>
    rw [hg] at hf
    simp only [Bool.and_eq_true] at hg
    have hcat := Nat.le_of_ble_eq_true hg.2
    obtain ⟨n, hn⟩ := (a_G_some _ _ _ _ _ _ _ _).mp hf
    rw [lg_entry_eq]
    refine a_sound (A := a_Fr ad) (H0 := s.heap) (own := own) (ret := ret) hcx hnw hK hJ (fun k hk => ⟨k, hk, rfl⟩) (fun q hq => by cases hq) hft hct hlt (hcb p e s m _ below meth c _ dC dI cI cZ cJ ad hcx hnw hK hJ) ?_ htab n 0 _ _ S s.heap [] _ hn (a_lo_in hcat) hP va_S.rf
    intro i y' pc ls st r H locs hd hrok hrv hro hP1 hS1
    have post : ∀ (v : Option Value), v = q.1.map (a_cv ad) → ∀ t : State, t.heap = H → s.WarmedH t.vm → a_Qc dC dI cI cZ cJ ad q (vs.map (a_cv ad)).toArray s (.returned v) t := fun v hv t ht hW => ⟨by rw [hv], by rw [ht]; exact hP1, va_K.moved hW.alike hK, hS1.F ht⟩
    cases i <;> simp only [a_rok] at hrok <;> (try exact absurd hrok (by decide))
    case ireturn =>
      simp only [a_rv] at hrv
      split at hrv
      · rename_i v
        simp only [Bool.or_eq_true, Bool.and_eq_true, decide_eq_true_eq] at hrok
        rcases hrok with ⟨h1, h2⟩ | ⟨h1, h2⟩
        · rw [h1] at hrv
          cases hrv
          exact W.iret hx hb (hr.trans h2) (post _ (by rw [← hro]; rfl)) hS1.2.2 hd
        · have hy1 := Nat.eq_of_beq_eq_true h1
          subst hy1
          dsimp only [Nat.beq, cond] at hrv
          split at hrv
          · rename_i h01
            cases hrv
            have hn : narrow FieldType.boolean (Value.int v) = Value.int v := by
              rcases h01 with h | h <;> (rw [h]; decide)
            exact W.zret hx hb (hr.trans h2) hn (post _ (by rw [← hro]; rfl)) hS1.2.2 hd
          · cases hrv
      · cases hrv
    case lreturn =>
      simp only [a_rv] at hrv
      split at hrv
      · cases hrv
        exact W.lret hx hb (hr.trans (of_decide_eq_true hrok)) (post _ (by rw [← hro]; rfl)) hS1.2.2 hd
      · cases hrv
    case areturn =>
      simp only [a_rv] at hrv
      split at hrv
      · cases hrv
        split at hrok
        · rename_i n0
          exact W.aret hx hb hr (Or.inl ⟨_, rfl⟩) (Or.inr ⟨_, rfl⟩) (post _ (by rw [← hro]; rfl)) hS1.2.2 hd
        · cases hrok
      · cases hrv
    case return_ =>
      simp only [a_rv] at hrv
      split at hrv
      · cases hrv
        exact W.vret hx hb (hr.trans (of_decide_eq_true hrok)) (post _ (by rw [← hro]; rfl)) hS1.2.2 hd
      · cases hrv
/-- what the tables say of a method that is called (kind 0: of an object of class ci; 1: static) -/
def a_cal (kd : Nat) (y : MethodName) (cc : ByteArray) (nL : Nat) (ret : Option FieldType) (n ci : Nat) : Prop :=
  Jvm.Cond.code y cc nL ret ∈ lw_tbl ∧ Jvm.Cond.initialized y.cls ∈ lw_tbl ∧ (y.cls ≠ "java/lang/invoke/MethodHandle" ∧ y.cls ≠ "java/lang/invoke/VarHandle") ∧ (parseMethodDescriptor y.desc).map (fun d => d.parameters.length) = some n ∧
    ((kd = 0 ∧ Jvm.Cond.instanceMethod y ∈ lw_tbl ∧ Jvm.Cond.selects y.cls y y ∈ lw_tbl ∧ ∃ T N, vwCl[ci]? = some (y.cls, T, N)) ∨ (kd = 1 ∧ Jvm.Cond.static y ∈ lw_tbl))
def a_lnk (own : String) (idx : Nat) (y : MethodName) : Prop := Jvm.Cond.methodLink own idx y ∈ lw_tbl ∨ ∃ host, Jvm.Cond.methodLinkNest own idx y host ∈ lw_tbl
def a_rci (kd ci : Nat) : Option Nat := bif Nat.beq kd 0 then some ci else none
theorem a_fn_rcv {ci : Option Nat} {nL : Nat} {tab : Nat → Option a_E} {cb : a_C} {vs : List Value} {S : a_M} {q : a_O} (h : a_fn ci nL tab cb vs S = some q) : a_rcv ci vs = true := by
  unfold a_fn at h
  cases hg : a_rcv ci vs with
  | false => rw [hg] at h; cases h
  | true => rfl
theorem lw_goodIn (y : MethodName) (cc : ByteArray) (nL : Nat) (ret : Option FieldType) (h : Jvm.Cond.code y cc nL ret ∈ lw_tbl) : GoodIn a_T (a_ws0 y cc nL ret) := by
  intro w hw
  have hm : w ∈ a_T := by
    rcases List.mem_cons.mp hw with rfl | hw
    · exact a_inT h rfl
    · exact hw
  exact ⟨hm, good_of_word (List.mem_filter.mp hm).2⟩
section ACALL
variable {p : Program} {l : Launch} {en : Env} {R : Room} {s : State} {m : MethodId} {args : Array Value} {below : List Frame} {meth : Method} {c : Code} {Q : State → Prop}
variable {dC : Nat → ClassId} {dI : Nat → Nat → Nat} {cI cZ cJ : ClassId} {ad : Nat → Nat} {A : Nat → Prop} {H0 : Heap} {cc bytes : ByteArray} {nL maxL fr lo n ci kd idx na ce sl : Nat} {own : String} {ret : Option FieldType} {y : MethodName} {f : a_F}
theorem a_Pc_blind {vs : List Value} {S : a_M} : FrameBlind (a_Pc dC dI cI cZ cJ ad vs S) := fun a U g mk q => ⟨q.1, q.2.1, va_K.moved (u := U) (U := U.calling g mk a) (Vm.Alike.refl U.vm) q.2.2.1, a_Nw_same (u := U) (U := U.calling g mk a) rfl q.2.2.2⟩
theorem a_back {pc : Nat} {ls : Array Slot} {vs rest : List Value} {q : a_O} {H : Heap} {locs : List Loc} (hA : ∀ k, k < 103 → A (ad k))
    (run : va_Run p l en R s m args below meth c H locs ce sl 0 0 (F0 m pc ls ((vs.reverse ++ rest).map (a_cv ad))) (rest.map (a_cv ad)) (a_Qc dC dI cI cZ cJ ad q (vs.map (a_cv ad)).toArray) (a_Fr ad)) (hS : va_S A H0 H locs)
    (kk : ∀ (H1 : Heap) (locs1 : List Loc), va_P (dC, dI) vwCl (a_ws cI cZ cJ ad q.2) H1 → va_S A H0 H1 locs1 → W p l en R s m args below meth c H1 locs1 ce sl Q (F0 m (pc + 3) ls ((q.1.toList ++ rest).map (a_cv ad)))) :
    W p l en R s m args below meth c H locs ce sl Q (F0 m pc ls ((vs.reverse ++ rest).map (a_cv ad))) := by
  intro T hT X
  obtain ⟨v, st₀, t, T', L, h0, X', hL, e1, e2, ⟨hv, hP1, hK1, hz, hk⟩, st⟩ := run T hT X
  cases hv
  rw [h0] at hz hk
  have hFA : ∀ z, a_Fr ad z → A z := fun z hz => by obtain ⟨k, hk, rfl⟩ := hz; exact hA k hk
  obtain ⟨t2, a1, b1⟩ := kk T'.heap (locs ++ L) (by rw [e1]; exact hP1)
    ⟨Nat.le_trans hS.1 (by rw [e1]; exact hz), fun z h1 h2 => by rw [e1, hk z (Nat.lt_of_lt_of_le h1 hS.1) (fun w => h2 (hFA z w))]; exact hS.2.1 z h1 h2, fun z hz => by
      rcases List.mem_append.mp hz with h | h
      · exact hS.2.2 z h
      · exact hFA _ (hL z h)⟩ T' rfl X'
  have hst : (Option.map (a_cv ad) q.1).toList ++ rest.map (a_cv ad) = (q.1.toList ++ rest).map (a_cv ad) := by
    cases q.1 <;> simp
  rw [← hst] at a1
  exact ⟨t2, st t2 a1, b1⟩
theorem a_cl (hM : a_Mt l y bytes maxL ret fr lo f) (hcal : a_cal kd y bytes maxL ret n ci) (hlk : a_lnk own idx y) (hrc : ∀ vs S q, f vs S = some q → a_rcv (a_rci kd ci) vs = true) (hna : na = (bif Nat.beq kd 0 then n + 1 else n)) (hR : fr + 1 ≤ R.frames ∧ 8 + (maxL + 11) + lo ≤ R.locals)
    (hce : ce ≤ R.cells ∧ sl ≤ R.slots) (hA : ∀ k, k < 103 → A (ad k)) (hcx : CallFix p m c cc nL s args a_T own) (hnw : ∀ w ∈ a_N, va_Nw w s) (hK : va_K (dC, dI) vwCl (a_tys cI cZ cJ) s) (hJ : ∀ i j, i < 103 → j < 103 → ad i = ad j → i = j) :
    a_Cl p l en R s m args below meth c Q dC dI cI cZ cJ ad A H0 cc nL ce sl kd idx na f := by
  intro i pc ls vs rest S q H locs hi hd hvs hcats hf hls hP hS kk
  obtain ⟨hcode, hini, hne, hpar, hkd⟩ := hcal
  have hcx0 := hcx
  obtain ⟨hx, hb, hml, hown, hts⟩ := hcx
  have hM' := hM dC dI cI cZ cJ ad hJ vs S q hf
  have hsig : ∀ sig, parseMethodDescriptor y.desc = some sig → n = sig.parameters.length := fun sig h => by rw [h] at hpar; exact (Option.some.inj hpar).symm
  have hpay := pay_in hts (lw_goodIn y bytes maxL ret hcode)
  have hWr : 2 * (F0 m pc ls ((vs.reverse ++ rest).map (a_cv ad))).monitorRoom + ((rest.map (a_cv ad)).map fun v => v.category).sum ≤ 8 := lv_room (by rw [a_cats_sum]; exact hcats)
  rcases hkd with ⟨rfl, hinst, hsel, T, N, hcl⟩ | ⟨rfl, hstat⟩
  · have hi : i = .invokevirtual idx := by
      rcases hi with ⟨-, h⟩ | ⟨h, -⟩ | ⟨h, -⟩
      · exact h
      · cases h
      · cases h
    subst hi
    have hrv := hrc vs S q hf
    match vs, hvs, hf, hrv, hM', kk with
    | [], _, _, hrv, _, _ => simp [a_rci, a_rcv] at hrv
    | .int _ :: _, _, _, hrv, _, _ => simp [a_rci, a_rcv] at hrv
    | .long _ :: _, _, _, hrv, _, _ => simp [a_rci, a_rcv] at hrv
    | .float _ :: _, _, _, hrv, _, _ => simp [a_rci, a_rcv] at hrv
    | .double _ :: _, _, _, hrv, _, _ => simp [a_rci, a_rcv] at hrv
    | .null :: _, _, _, hrv, _, _ => simp [a_rci, a_rcv] at hrv
    | .retAddr _ :: _, _, _, hrv, _, _ => simp [a_rci, a_rcv] at hrv
    | .ref k :: As, hvs, hf, hrv, hM', kk =>
      have hds : a_ds k = (0, ci) := by
        simp only [a_rci, a_rcv] at hrv
        have h2 : (match a_ds k with
          | (0, c) => Nat.beq c ci
          | _ => false) = true := hrv
        split at h2
        · rename_i c0 hq
          rw [hq, Nat.eq_of_beq_eq_true h2]
        · cases h2
      have hk := a_ds_lt hds (by decide)
      have hlen : As.length = n := by
        simp only [List.length_cons] at hvs
        have : na = n + 1 := hna
        omega
      have hst : (F0 m pc ls (((Value.ref k :: As).reverse ++ rest).map (a_cv ad))).stack = (As.map (a_cv ad)).reverse ++ .ref (ad k) :: rest.map (a_cv ad) := by
        show ((Value.ref k :: As).reverse ++ rest).map (a_cv ad) = _
        simp [a_cv]
      have hpre : PreV s H y.cls (ad k) (a_Pc dC dI cI cZ cJ ad (.ref k :: As) S) (As.map (a_cv ad)) := ⟨a_Pc_blind, va_recv hK hP hcl (q0 := k) (fs := (List.range (a_nf ci)).map (a_fv ad S k ci)) (by rw [a_ws_at hk]; simp only [a_en, hds]), fun U hU hW => ⟨rfl, by rw [hU]; exact hP, va_K.moved hW.alike hK, a_Nw_warm hW hnw⟩⟩
      refine a_back hA ?_ hS kk
      rcases hlk with hlk | ⟨host, hlk⟩
      · exact va_runV (n := n) (rm := { frames := fr, cells := 0, slots := 0, locals := lo }) hcx0 hM' ⟨⟨rfl, rfl, hR.1, hR.2, hpay, List.mem_cons_self, hts _ (a_inT hcode rfl), hts _ (a_inT hini rfl), hne, hsig, hts _ (a_inT hlk rfl)⟩, hts _ (a_inT hinst rfl), hts _ (a_inT hsel rfl)⟩ hpre rfl (by simp [hlen]) hls hst hWr hd hce
      · exact va_runVN (n := n) (rm := { frames := fr, cells := 0, slots := 0, locals := lo }) hcx0 hM' ⟨⟨⟨rfl, rfl, hR.1, hR.2, hpay, List.mem_cons_self⟩, hts _ (a_inT hcode rfl), hts _ (a_inT hini rfl), hne, hsig, va_Nw.use rfl (hnw _ (a_inN hlk rfl))⟩, hts _ (a_inT hinst rfl), hts _ (a_inT hsel rfl)⟩ hpre rfl (by simp [hlen]) hls hst hWr hd hce
  · have hi : i = .invokestatic idx := by
      rcases hi with ⟨h, -⟩ | ⟨-, h⟩ | ⟨h, -⟩
      · cases h
      · exact h
      · cases h
    subst hi
    have hlen : vs.length = n := hvs.trans hna
    have hst : (F0 m pc ls ((vs.reverse ++ rest).map (a_cv ad))).stack = (vs.map (a_cv ad)).reverse ++ rest.map (a_cv ad) := by
      show (vs.reverse ++ rest).map (a_cv ad) = _
      simp
    have hpre : PreS s H (a_Pc dC dI cI cZ cJ ad vs S) (vs.map (a_cv ad)) := ⟨a_Pc_blind, fun U hU hW => ⟨rfl, by rw [hU]; exact hP, va_K.moved hW.alike hK, a_Nw_warm hW hnw⟩⟩
    refine a_back hA ?_ hS kk
    rcases hlk with hlk | ⟨host, hlk⟩
    · exact va_runS (n := n) (rm := { frames := fr, cells := 0, slots := 0, locals := lo }) hcx0 hM' ⟨⟨rfl, rfl, hR.1, hR.2, hpay, List.mem_cons_self, hts _ (a_inT hcode rfl), hts _ (a_inT hini rfl), hne, hsig, hts _ (a_inT hlk rfl)⟩, hts _ (a_inT hstat rfl)⟩ hpre rfl (by simp [hlen]) hls hst hWr hd hce
    · exact va_runSN (n := n) (rm := { frames := fr, cells := 0, slots := 0, locals := lo }) hcx0 hM' ⟨⟨⟨rfl, rfl, hR.1, hR.2, hpay, List.mem_cons_self⟩, hts _ (a_inT hcode rfl), hts _ (a_inT hini rfl), hne, hsig, va_Nw.use rfl (hnw _ (a_inN hlk rfl))⟩, hts _ (a_inT hstat rfl), trivial⟩ hpre rfl (by simp [hlen]) hls hst hWr hd hce
end ACALL
end
