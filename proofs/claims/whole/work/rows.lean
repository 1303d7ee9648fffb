section
-- ===== PART A: goes FIRST, ahead of the names: the tables' words, and 'selects' of the private methods out of them =====
/-- a private method of a class that the tables say can be made, by its rows of tables_1 -/
def lw_okq (q : MethodName × Nat) : Prop := (q.1.cls ≠ "java/lang/invoke/MethodHandle" ∧ q.1.cls ≠ "java/lang/invoke/VarHandle") ∧ Cond.instantiable q.1.cls q.2 ∈ tables_1 ∧ Cond.privateMethod q.1 ∈ tables_1 ∧ Cond.instanceMethod q.1 ∈ tables_1
theorem lw_p0 : lw_okq (⟨"DieLineChecker$Reader", "takeByte", "([III)V"⟩, 8) := ⟨⟨by decide +kernel, by decide +kernel⟩, List.mem_of_getElem? (i := 193) (by decide +kernel), List.mem_of_getElem? (i := 528) (by decide +kernel), List.mem_of_getElem? (i := 529) (by decide +kernel)⟩
theorem lw_p1 : lw_okq (⟨"DieLineChecker$Reader", "takeNumber", "([III)V"⟩, 8) := ⟨⟨by decide +kernel, by decide +kernel⟩, List.mem_of_getElem? (i := 193) (by decide +kernel), List.mem_of_getElem? (i := 535) (by decide +kernel), List.mem_of_getElem? (i := 536) (by decide +kernel)⟩
theorem lw_p2 : lw_okq (⟨"DieLineChecker$Reader", "fail", "(II)V"⟩, 8) := ⟨⟨by decide +kernel, by decide +kernel⟩, List.mem_of_getElem? (i := 193) (by decide +kernel), List.mem_of_getElem? (i := 539) (by decide +kernel), List.mem_of_getElem? (i := 540) (by decide +kernel)⟩
theorem lw_p3 : lw_okq (⟨"DieLineChecker$Reader", "endItem", "(I)V"⟩, 8) := ⟨⟨by decide +kernel, by decide +kernel⟩, List.mem_of_getElem? (i := 193) (by decide +kernel), List.mem_of_getElem? (i := 546) (by decide +kernel), List.mem_of_getElem? (i := 547) (by decide +kernel)⟩
theorem lw_p4 : lw_okq (⟨"DieLineChecker$Reader", "beginItem", "(II)V"⟩, 8) := ⟨⟨by decide +kernel, by decide +kernel⟩, List.mem_of_getElem? (i := 193) (by decide +kernel), List.mem_of_getElem? (i := 550) (by decide +kernel), List.mem_of_getElem? (i := 551) (by decide +kernel)⟩
theorem lw_p5 : lw_okq (⟨"DieLineChecker$Reader", "carryOut", "()Z"⟩, 8) := ⟨⟨by decide +kernel, by decide +kernel⟩, List.mem_of_getElem? (i := 193) (by decide +kernel), List.mem_of_getElem? (i := 554) (by decide +kernel), List.mem_of_getElem? (i := 555) (by decide +kernel)⟩
theorem lw_p6 : lw_okq (⟨"DieLineChecker$Reader", "hangPanel", "()Z"⟩, 8) := ⟨⟨by decide +kernel, by decide +kernel⟩, List.mem_of_getElem? (i := 193) (by decide +kernel), List.mem_of_getElem? (i := 588) (by decide +kernel), List.mem_of_getElem? (i := 589) (by decide +kernel)⟩
theorem lw_p7 : lw_okq (⟨"DieLineChecker$Design", "draft", "(IIIIII)V"⟩, 7) := ⟨⟨by decide +kernel, by decide +kernel⟩, List.mem_of_getElem? (i := 24) (by decide +kernel), List.mem_of_getElem? (i := 603) (by decide +kernel), List.mem_of_getElem? (i := 604) (by decide +kernel)⟩
theorem lw_p8 : lw_okq (⟨"DieLineChecker$Design", "fits", "(I)Z"⟩, 7) := ⟨⟨by decide +kernel, by decide +kernel⟩, List.mem_of_getElem? (i := 24) (by decide +kernel), List.mem_of_getElem? (i := 610) (by decide +kernel), List.mem_of_getElem? (i := 611) (by decide +kernel)⟩
theorem lw_p9 : lw_okq (⟨"DieLineChecker$Reader", "glue", "()Z"⟩, 8) := ⟨⟨by decide +kernel, by decide +kernel⟩, List.mem_of_getElem? (i := 193) (by decide +kernel), List.mem_of_getElem? (i := 626) (by decide +kernel), List.mem_of_getElem? (i := 627) (by decide +kernel)⟩
theorem lw_p10 : lw_okq (⟨"DieLineChecker$Reader", "printImage", "()Z"⟩, 8) := ⟨⟨by decide +kernel, by decide +kernel⟩, List.mem_of_getElem? (i := 193) (by decide +kernel), List.mem_of_getElem? (i := 655) (by decide +kernel), List.mem_of_getElem? (i := 656) (by decide +kernel)⟩
theorem lw_p11 : lw_okq (⟨"DieLineChecker", "findSeams", "()V"⟩, 16) := ⟨⟨by decide +kernel, by decide +kernel⟩, List.mem_of_getElem? (i := 16) (by decide +kernel), List.mem_of_getElem? (i := 789) (by decide +kernel), List.mem_of_getElem? (i := 790) (by decide +kernel)⟩
theorem lw_p12 : lw_okq (⟨"DieLineChecker$Pose", "outward", "(I)I"⟩, 14) := ⟨⟨by decide +kernel, by decide +kernel⟩, List.mem_of_getElem? (i := 282) (by decide +kernel), List.mem_of_getElem? (i := 831) (by decide +kernel), List.mem_of_getElem? (i := 832) (by decide +kernel)⟩
theorem lw_p13 : lw_okq (⟨"DieLineChecker$Seams", "joinSide", "(III)V"⟩, 9) := ⟨⟨by decide +kernel, by decide +kernel⟩, List.mem_of_getElem? (i := 269) (by decide +kernel), List.mem_of_getElem? (i := 839) (by decide +kernel), List.mem_of_getElem? (i := 840) (by decide +kernel)⟩
theorem lw_p14 : lw_okq (⟨"DieLineChecker$Artwork", "takePoints", "(I)V"⟩, 11) := ⟨⟨by decide +kernel, by decide +kernel⟩, List.mem_of_getElem? (i := 263) (by decide +kernel), List.mem_of_getElem? (i := 895) (by decide +kernel), List.mem_of_getElem? (i := 896) (by decide +kernel)⟩
theorem lw_p15 : lw_okq (⟨"DieLineChecker$Artwork", "takePoint", "(III)V"⟩, 11) := ⟨⟨by decide +kernel, by decide +kernel⟩, List.mem_of_getElem? (i := 263) (by decide +kernel), List.mem_of_getElem? (i := 917) (by decide +kernel), List.mem_of_getElem? (i := 918) (by decide +kernel)⟩
def lw_privs_1 : List (MethodName × Nat) := [(⟨"DieLineChecker$Reader", "takeByte", "([III)V"⟩, 8), (⟨"DieLineChecker$Reader", "takeNumber", "([III)V"⟩, 8), (⟨"DieLineChecker$Reader", "fail", "(II)V"⟩, 8), (⟨"DieLineChecker$Reader", "endItem", "(I)V"⟩, 8), (⟨"DieLineChecker$Reader", "beginItem", "(II)V"⟩, 8), (⟨"DieLineChecker$Reader", "carryOut", "()Z"⟩, 8), (⟨"DieLineChecker$Reader", "hangPanel", "()Z"⟩, 8), (⟨"DieLineChecker$Design", "draft", "(IIIIII)V"⟩, 7), (⟨"DieLineChecker$Design", "fits", "(I)Z"⟩, 7), (⟨"DieLineChecker$Reader", "glue", "()Z"⟩, 8), (⟨"DieLineChecker$Reader", "printImage", "()Z"⟩, 8), (⟨"DieLineChecker", "findSeams", "()V"⟩, 16), (⟨"DieLineChecker$Pose", "outward", "(I)I"⟩, 14), (⟨"DieLineChecker$Seams", "joinSide", "(III)V"⟩, 9), (⟨"DieLineChecker$Artwork", "takePoints", "(I)V"⟩, 11), (⟨"DieLineChecker$Artwork", "takePoint", "(III)V"⟩, 11)]
theorem lw_r1 : ∀ q ∈ lw_privs_1, lw_okq q := List.forall_mem_cons.mpr ⟨lw_p0, List.forall_mem_cons.mpr ⟨lw_p1, List.forall_mem_cons.mpr ⟨lw_p2, List.forall_mem_cons.mpr ⟨lw_p3, List.forall_mem_cons.mpr ⟨lw_p4, List.forall_mem_cons.mpr ⟨lw_p5, List.forall_mem_cons.mpr ⟨lw_p6, List.forall_mem_cons.mpr ⟨lw_p7, List.forall_mem_cons.mpr ⟨lw_p8, List.forall_mem_cons.mpr ⟨lw_p9, List.forall_mem_cons.mpr ⟨lw_p10, List.forall_mem_cons.mpr ⟨lw_p11, List.forall_mem_cons.mpr ⟨lw_p12, List.forall_mem_cons.mpr ⟨lw_p13, List.forall_mem_cons.mpr ⟨lw_p14, List.forall_mem_cons.mpr ⟨lw_p15, fun _ h => absurd h List.not_mem_nil⟩⟩⟩⟩⟩⟩⟩⟩⟩⟩⟩⟩⟩⟩⟩⟩
theorem lw_p16 : lw_okq (⟨"DieLineChecker$Artwork", "takeCoordinates", "(LDieLineChecker$Design;LDieLineChecker$Panel;I)V"⟩, 11) := ⟨⟨by decide +kernel, by decide +kernel⟩, List.mem_of_getElem? (i := 263) (by decide +kernel), List.mem_of_getElem? (i := 925) (by decide +kernel), List.mem_of_getElem? (i := 926) (by decide +kernel)⟩
theorem lw_p17 : lw_okq (⟨"DieLineChecker$Artwork", "agrees", "(LDieLineChecker$Design;IZ)Z"⟩, 11) := ⟨⟨by decide +kernel, by decide +kernel⟩, List.mem_of_getElem? (i := 263) (by decide +kernel), List.mem_of_getElem? (i := 942) (by decide +kernel), List.mem_of_getElem? (i := 943) (by decide +kernel)⟩
theorem lw_p18 : lw_okq (⟨"DieLineChecker$Artwork", "spreadOnce", "(LDieLineChecker$Design;I)Z"⟩, 11) := ⟨⟨by decide +kernel, by decide +kernel⟩, List.mem_of_getElem? (i := 263) (by decide +kernel), List.mem_of_getElem? (i := 967) (by decide +kernel), List.mem_of_getElem? (i := 968) (by decide +kernel)⟩
theorem lw_p19 : lw_okq (⟨"DieLineChecker$Blank", "newLine", "(LDieLineChecker$Design;II)I"⟩, 2) := ⟨⟨by decide +kernel, by decide +kernel⟩, List.mem_of_getElem? (i := 228) (by decide +kernel), List.mem_of_getElem? (i := 1014) (by decide +kernel), List.mem_of_getElem? (i := 1015) (by decide +kernel)⟩
theorem lw_p20 : lw_okq (⟨"DieLineChecker", "pitchFault", "(II)I"⟩, 16) := ⟨⟨by decide +kernel, by decide +kernel⟩, List.mem_of_getElem? (i := 16) (by decide +kernel), List.mem_of_getElem? (i := 1056) (by decide +kernel), List.mem_of_getElem? (i := 1057) (by decide +kernel)⟩
theorem lw_p21 : lw_okq (⟨"DieLineChecker$Blank", "take", "(II)V"⟩, 2) := ⟨⟨by decide +kernel, by decide +kernel⟩, List.mem_of_getElem? (i := 228) (by decide +kernel), List.mem_of_getElem? (i := 1077) (by decide +kernel), List.mem_of_getElem? (i := 1078) (by decide +kernel)⟩
theorem lw_p22 : lw_okq (⟨"DieLineChecker$Blank", "isFree", "(II)Z"⟩, 2) := ⟨⟨by decide +kernel, by decide +kernel⟩, List.mem_of_getElem? (i := 228) (by decide +kernel), List.mem_of_getElem? (i := 1081) (by decide +kernel), List.mem_of_getElem? (i := 1082) (by decide +kernel)⟩
theorem lw_p23 : lw_okq (⟨"DieLineChecker$Seams", "isFold", "(LDieLineChecker$Design;I)Z"⟩, 9) := ⟨⟨by decide +kernel, by decide +kernel⟩, List.mem_of_getElem? (i := 269) (by decide +kernel), List.mem_of_getElem? (i := 1136) (by decide +kernel), List.mem_of_getElem? (i := 1137) (by decide +kernel)⟩
theorem lw_p24 : lw_okq (⟨"DieLineChecker$Findings", "limit", "(I)I"⟩, 8) := ⟨⟨by decide +kernel, by decide +kernel⟩, List.mem_of_getElem? (i := 257) (by decide +kernel), List.mem_of_getElem? (i := 1206) (by decide +kernel), List.mem_of_getElem? (i := 1207) (by decide +kernel)⟩
theorem lw_p25 : lw_okq (⟨"DieLineChecker$Folding", "nextFold", "(LDieLineChecker$Design;III)I"⟩, 5) := ⟨⟨by decide +kernel, by decide +kernel⟩, List.mem_of_getElem? (i := 275) (by decide +kernel), List.mem_of_getElem? (i := 1237) (by decide +kernel), List.mem_of_getElem? (i := 1238) (by decide +kernel)⟩
theorem lw_p26 : lw_okq (⟨"DieLineChecker$Findings", "collectPairs", "(LDieLineChecker$Design;)V"⟩, 8) := ⟨⟨by decide +kernel, by decide +kernel⟩, List.mem_of_getElem? (i := 257) (by decide +kernel), List.mem_of_getElem? (i := 1268) (by decide +kernel), List.mem_of_getElem? (i := 1269) (by decide +kernel)⟩
theorem lw_p27 : lw_okq (⟨"DieLineChecker$Findings", "add", "(IIIII)V"⟩, 8) := ⟨⟨by decide +kernel, by decide +kernel⟩, List.mem_of_getElem? (i := 257) (by decide +kernel), List.mem_of_getElem? (i := 1273) (by decide +kernel), List.mem_of_getElem? (i := 1274) (by decide +kernel)⟩
theorem lw_p28 : lw_okq (⟨"DieLineChecker$Findings", "weight", "(I)I"⟩, 8) := ⟨⟨by decide +kernel, by decide +kernel⟩, List.mem_of_getElem? (i := 257) (by decide +kernel), List.mem_of_getElem? (i := 1277) (by decide +kernel), List.mem_of_getElem? (i := 1278) (by decide +kernel)⟩
theorem lw_p29 : lw_okq (⟨"DieLineChecker$Findings", "collectFlap", "(LDieLineChecker$Design;I)V"⟩, 8) := ⟨⟨by decide +kernel, by decide +kernel⟩, List.mem_of_getElem? (i := 257) (by decide +kernel), List.mem_of_getElem? (i := 1283) (by decide +kernel), List.mem_of_getElem? (i := 1284) (by decide +kernel)⟩
theorem lw_p30 : lw_okq (⟨"DieLineChecker$Findings", "collectOpen", "(I)V"⟩, 8) := ⟨⟨by decide +kernel, by decide +kernel⟩, List.mem_of_getElem? (i := 257) (by decide +kernel), List.mem_of_getElem? (i := 1298) (by decide +kernel), List.mem_of_getElem? (i := 1299) (by decide +kernel)⟩
theorem lw_p31 : lw_okq (⟨"DieLineChecker$Findings", "collectPrint", "(LDieLineChecker$Design;I)V"⟩, 8) := ⟨⟨by decide +kernel, by decide +kernel⟩, List.mem_of_getElem? (i := 257) (by decide +kernel), List.mem_of_getElem? (i := 1302) (by decide +kernel), List.mem_of_getElem? (i := 1303) (by decide +kernel)⟩
def lw_privs_2 : List (MethodName × Nat) := [(⟨"DieLineChecker$Artwork", "takeCoordinates", "(LDieLineChecker$Design;LDieLineChecker$Panel;I)V"⟩, 11), (⟨"DieLineChecker$Artwork", "agrees", "(LDieLineChecker$Design;IZ)Z"⟩, 11), (⟨"DieLineChecker$Artwork", "spreadOnce", "(LDieLineChecker$Design;I)Z"⟩, 11), (⟨"DieLineChecker$Blank", "newLine", "(LDieLineChecker$Design;II)I"⟩, 2), (⟨"DieLineChecker", "pitchFault", "(II)I"⟩, 16), (⟨"DieLineChecker$Blank", "take", "(II)V"⟩, 2), (⟨"DieLineChecker$Blank", "isFree", "(II)Z"⟩, 2), (⟨"DieLineChecker$Seams", "isFold", "(LDieLineChecker$Design;I)Z"⟩, 9), (⟨"DieLineChecker$Findings", "limit", "(I)I"⟩, 8), (⟨"DieLineChecker$Folding", "nextFold", "(LDieLineChecker$Design;III)I"⟩, 5), (⟨"DieLineChecker$Findings", "collectPairs", "(LDieLineChecker$Design;)V"⟩, 8), (⟨"DieLineChecker$Findings", "add", "(IIIII)V"⟩, 8), (⟨"DieLineChecker$Findings", "weight", "(I)I"⟩, 8), (⟨"DieLineChecker$Findings", "collectFlap", "(LDieLineChecker$Design;I)V"⟩, 8), (⟨"DieLineChecker$Findings", "collectOpen", "(I)V"⟩, 8), (⟨"DieLineChecker$Findings", "collectPrint", "(LDieLineChecker$Design;I)V"⟩, 8)]
theorem lw_r2 : ∀ q ∈ lw_privs_2, lw_okq q := List.forall_mem_cons.mpr ⟨lw_p16, List.forall_mem_cons.mpr ⟨lw_p17, List.forall_mem_cons.mpr ⟨lw_p18, List.forall_mem_cons.mpr ⟨lw_p19, List.forall_mem_cons.mpr ⟨lw_p20, List.forall_mem_cons.mpr ⟨lw_p21, List.forall_mem_cons.mpr ⟨lw_p22, List.forall_mem_cons.mpr ⟨lw_p23, List.forall_mem_cons.mpr ⟨lw_p24, List.forall_mem_cons.mpr ⟨lw_p25, List.forall_mem_cons.mpr ⟨lw_p26, List.forall_mem_cons.mpr ⟨lw_p27, List.forall_mem_cons.mpr ⟨lw_p28, List.forall_mem_cons.mpr ⟨lw_p29, List.forall_mem_cons.mpr ⟨lw_p30, List.forall_mem_cons.mpr ⟨lw_p31, fun _ h => absurd h List.not_mem_nil⟩⟩⟩⟩⟩⟩⟩⟩⟩⟩⟩⟩⟩⟩⟩⟩
theorem lw_p32 : lw_okq (⟨"DieLineChecker$Findings", "collectIntrusions", "(LDieLineChecker$Design;III)V"⟩, 8) := ⟨⟨by decide +kernel, by decide +kernel⟩, List.mem_of_getElem? (i := 257) (by decide +kernel), List.mem_of_getElem? (i := 1316) (by decide +kernel), List.mem_of_getElem? (i := 1317) (by decide +kernel)⟩
theorem lw_p33 : lw_okq (⟨"DieLineChecker$Findings", "collectBreaks", "(LDieLineChecker$Design;)V"⟩, 8) := ⟨⟨by decide +kernel, by decide +kernel⟩, List.mem_of_getElem? (i := 257) (by decide +kernel), List.mem_of_getElem? (i := 1324) (by decide +kernel), List.mem_of_getElem? (i := 1325) (by decide +kernel)⟩
theorem lw_p34 : lw_okq (⟨"DieLineCheckerModel", "clearDesign", "()V"⟩, 30) := ⟨⟨by decide +kernel, by decide +kernel⟩, List.mem_of_getElem? (i := 1400) (by decide +kernel), List.mem_of_getElem? (i := 1406) (by decide +kernel), List.mem_of_getElem? (i := 1407) (by decide +kernel)⟩
theorem lw_p35 : lw_okq (⟨"DieLineCheckerModel", "many", "()I"⟩, 30) := ⟨⟨by decide +kernel, by decide +kernel⟩, List.mem_of_getElem? (i := 1400) (by decide +kernel), List.mem_of_getElem? (i := 1512) (by decide +kernel), List.mem_of_getElem? (i := 1513) (by decide +kernel)⟩
theorem lw_p36 : lw_okq (⟨"DieLineCheckerModel", "begins", "()V"⟩, 30) := ⟨⟨by decide +kernel, by decide +kernel⟩, List.mem_of_getElem? (i := 1400) (by decide +kernel), List.mem_of_getElem? (i := 1520) (by decide +kernel), List.mem_of_getElem? (i := 1521) (by decide +kernel)⟩
theorem lw_p37 : lw_okq (⟨"DieLineCheckerModel", "ends", "(I)I"⟩, 30) := ⟨⟨by decide +kernel, by decide +kernel⟩, List.mem_of_getElem? (i := 1400) (by decide +kernel), List.mem_of_getElem? (i := 1524) (by decide +kernel), List.mem_of_getElem? (i := 1525) (by decide +kernel)⟩
theorem lw_p38 : lw_okq (⟨"DieLineCheckerModel", "doSheet", "(II)I"⟩, 30) := ⟨⟨by decide +kernel, by decide +kernel⟩, List.mem_of_getElem? (i := 1400) (by decide +kernel), List.mem_of_getElem? (i := 1532) (by decide +kernel), List.mem_of_getElem? (i := 1533) (by decide +kernel)⟩
theorem lw_p39 : lw_okq (⟨"DieLineCheckerModel", "refuse", "(I)I"⟩, 30) := ⟨⟨by decide +kernel, by decide +kernel⟩, List.mem_of_getElem? (i := 1400) (by decide +kernel), List.mem_of_getElem? (i := 1536) (by decide +kernel), List.mem_of_getElem? (i := 1537) (by decide +kernel)⟩
theorem lw_p40 : lw_okq (⟨"DieLineCheckerModel", "isValid", "()Z"⟩, 30) := ⟨⟨by decide +kernel, by decide +kernel⟩, List.mem_of_getElem? (i := 1400) (by decide +kernel), List.mem_of_getElem? (i := 1540) (by decide +kernel), List.mem_of_getElem? (i := 1541) (by decide +kernel)⟩
theorem lw_p41 : lw_okq (⟨"DieLineCheckerModel", "layFlat", "()V"⟩, 30) := ⟨⟨by decide +kernel, by decide +kernel⟩, List.mem_of_getElem? (i := 1400) (by decide +kernel), List.mem_of_getElem? (i := 1544) (by decide +kernel), List.mem_of_getElem? (i := 1545) (by decide +kernel)⟩
theorem lw_p42 : lw_okq (⟨"DieLineCheckerModel", "of", "(II)I"⟩, 30) := ⟨⟨by decide +kernel, by decide +kernel⟩, List.mem_of_getElem? (i := 1400) (by decide +kernel), List.mem_of_getElem? (i := 1548) (by decide +kernel), List.mem_of_getElem? (i := 1549) (by decide +kernel)⟩
theorem lw_p43 : lw_okq (⟨"DieLineCheckerModel", "sideLength", "(II)I"⟩, 30) := ⟨⟨by decide +kernel, by decide +kernel⟩, List.mem_of_getElem? (i := 1400) (by decide +kernel), List.mem_of_getElem? (i := 1552) (by decide +kernel), List.mem_of_getElem? (i := 1553) (by decide +kernel)⟩
theorem lw_p44 : lw_okq (⟨"DieLineCheckerModel", "overlap", "(II)Z"⟩, 30) := ⟨⟨by decide +kernel, by decide +kernel⟩, List.mem_of_getElem? (i := 1400) (by decide +kernel), List.mem_of_getElem? (i := 1556) (by decide +kernel), List.mem_of_getElem? (i := 1557) (by decide +kernel)⟩
theorem lw_p45 : lw_okq (⟨"DieLineCheckerModel", "doBase", "(IIII)I"⟩, 30) := ⟨⟨by decide +kernel, by decide +kernel⟩, List.mem_of_getElem? (i := 1400) (by decide +kernel), List.mem_of_getElem? (i := 1573) (by decide +kernel), List.mem_of_getElem? (i := 1574) (by decide +kernel)⟩
theorem lw_p46 : lw_okq (⟨"DieLineCheckerModel", "newPanel", "(I)V"⟩, 30) := ⟨⟨by decide +kernel, by decide +kernel⟩, List.mem_of_getElem? (i := 1400) (by decide +kernel), List.mem_of_getElem? (i := 1577) (by decide +kernel), List.mem_of_getElem? (i := 1578) (by decide +kernel)⟩
theorem lw_p47 : lw_okq (⟨"DieLineCheckerModel", "put", "(III)V"⟩, 30) := ⟨⟨by decide +kernel, by decide +kernel⟩, List.mem_of_getElem? (i := 1400) (by decide +kernel), List.mem_of_getElem? (i := 1581) (by decide +kernel), List.mem_of_getElem? (i := 1582) (by decide +kernel)⟩
def lw_privs_3 : List (MethodName × Nat) := [(⟨"DieLineChecker$Findings", "collectIntrusions", "(LDieLineChecker$Design;III)V"⟩, 8), (⟨"DieLineChecker$Findings", "collectBreaks", "(LDieLineChecker$Design;)V"⟩, 8), (⟨"DieLineCheckerModel", "clearDesign", "()V"⟩, 30), (⟨"DieLineCheckerModel", "many", "()I"⟩, 30), (⟨"DieLineCheckerModel", "begins", "()V"⟩, 30), (⟨"DieLineCheckerModel", "ends", "(I)I"⟩, 30), (⟨"DieLineCheckerModel", "doSheet", "(II)I"⟩, 30), (⟨"DieLineCheckerModel", "refuse", "(I)I"⟩, 30), (⟨"DieLineCheckerModel", "isValid", "()Z"⟩, 30), (⟨"DieLineCheckerModel", "layFlat", "()V"⟩, 30), (⟨"DieLineCheckerModel", "of", "(II)I"⟩, 30), (⟨"DieLineCheckerModel", "sideLength", "(II)I"⟩, 30), (⟨"DieLineCheckerModel", "overlap", "(II)Z"⟩, 30), (⟨"DieLineCheckerModel", "doBase", "(IIII)I"⟩, 30), (⟨"DieLineCheckerModel", "newPanel", "(I)V"⟩, 30), (⟨"DieLineCheckerModel", "put", "(III)V"⟩, 30)]
theorem lw_r3 : ∀ q ∈ lw_privs_3, lw_okq q := List.forall_mem_cons.mpr ⟨lw_p32, List.forall_mem_cons.mpr ⟨lw_p33, List.forall_mem_cons.mpr ⟨lw_p34, List.forall_mem_cons.mpr ⟨lw_p35, List.forall_mem_cons.mpr ⟨lw_p36, List.forall_mem_cons.mpr ⟨lw_p37, List.forall_mem_cons.mpr ⟨lw_p38, List.forall_mem_cons.mpr ⟨lw_p39, List.forall_mem_cons.mpr ⟨lw_p40, List.forall_mem_cons.mpr ⟨lw_p41, List.forall_mem_cons.mpr ⟨lw_p42, List.forall_mem_cons.mpr ⟨lw_p43, List.forall_mem_cons.mpr ⟨lw_p44, List.forall_mem_cons.mpr ⟨lw_p45, List.forall_mem_cons.mpr ⟨lw_p46, List.forall_mem_cons.mpr ⟨lw_p47, fun _ h => absurd h List.not_mem_nil⟩⟩⟩⟩⟩⟩⟩⟩⟩⟩⟩⟩⟩⟩⟩⟩
theorem lw_p48 : lw_okq (⟨"DieLineCheckerModel", "doPanel", "(IIIIII)I"⟩, 30) := ⟨⟨by decide +kernel, by decide +kernel⟩, List.mem_of_getElem? (i := 1400) (by decide +kernel), List.mem_of_getElem? (i := 1589) (by decide +kernel), List.mem_of_getElem? (i := 1590) (by decide +kernel)⟩
theorem lw_p49 : lw_okq (⟨"DieLineCheckerModel", "isPanel", "(I)Z"⟩, 30) := ⟨⟨by decide +kernel, by decide +kernel⟩, List.mem_of_getElem? (i := 1400) (by decide +kernel), List.mem_of_getElem? (i := 1593) (by decide +kernel), List.mem_of_getElem? (i := 1594) (by decide +kernel)⟩
theorem lw_p50 : lw_okq (⟨"DieLineCheckerModel", "isHung", "(I)Z"⟩, 30) := ⟨⟨by decide +kernel, by decide +kernel⟩, List.mem_of_getElem? (i := 1400) (by decide +kernel), List.mem_of_getElem? (i := 1605) (by decide +kernel), List.mem_of_getElem? (i := 1606) (by decide +kernel)⟩
theorem lw_p51 : lw_okq (⟨"DieLineCheckerModel", "doFlap", "(II)I"⟩, 30) := ⟨⟨by decide +kernel, by decide +kernel⟩, List.mem_of_getElem? (i := 1400) (by decide +kernel), List.mem_of_getElem? (i := 1617) (by decide +kernel), List.mem_of_getElem? (i := 1618) (by decide +kernel)⟩
theorem lw_p52 : lw_okq (⟨"DieLineCheckerModel", "doImage", "(III)I"⟩, 30) := ⟨⟨by decide +kernel, by decide +kernel⟩, List.mem_of_getElem? (i := 1400) (by decide +kernel), List.mem_of_getElem? (i := 1625) (by decide +kernel), List.mem_of_getElem? (i := 1626) (by decide +kernel)⟩
theorem lw_p53 : lw_okq (⟨"DieLineCheckerModel", "doPlace", "(IIIII)I"⟩, 30) := ⟨⟨by decide +kernel, by decide +kernel⟩, List.mem_of_getElem? (i := 1400) (by decide +kernel), List.mem_of_getElem? (i := 1633) (by decide +kernel), List.mem_of_getElem? (i := 1634) (by decide +kernel)⟩
theorem lw_p54 : lw_okq (⟨"DieLineCheckerModel", "skips", "()V"⟩, 30) := ⟨⟨by decide +kernel, by decide +kernel⟩, List.mem_of_getElem? (i := 1400) (by decide +kernel), List.mem_of_getElem? (i := 1661) (by decide +kernel), List.mem_of_getElem? (i := 1662) (by decide +kernel)⟩
theorem lw_p55 : lw_okq (⟨"DieLineCheckerModel", "here", "(I)I"⟩, 30) := ⟨⟨by decide +kernel, by decide +kernel⟩, List.mem_of_getElem? (i := 1400) (by decide +kernel), List.mem_of_getElem? (i := 1665) (by decide +kernel), List.mem_of_getElem? (i := 1666) (by decide +kernel)⟩
theorem lw_p56 : lw_okq (⟨"DieLineCheckerModel", "readItem", "()V"⟩, 30) := ⟨⟨by decide +kernel, by decide +kernel⟩, List.mem_of_getElem? (i := 1400) (by decide +kernel), List.mem_of_getElem? (i := 1669) (by decide +kernel), List.mem_of_getElem? (i := 1670) (by decide +kernel)⟩
theorem lw_p57 : lw_okq (⟨"DieLineCheckerModel", "isDigit", "(I)Z"⟩, 30) := ⟨⟨by decide +kernel, by decide +kernel⟩, List.mem_of_getElem? (i := 1400) (by decide +kernel), List.mem_of_getElem? (i := 1676) (by decide +kernel), List.mem_of_getElem? (i := 1677) (by decide +kernel)⟩
theorem lw_p58 : lw_okq (⟨"DieLineCheckerModel", "numberEnd", "(I)I"⟩, 30) := ⟨⟨by decide +kernel, by decide +kernel⟩, List.mem_of_getElem? (i := 1400) (by decide +kernel), List.mem_of_getElem? (i := 1680) (by decide +kernel), List.mem_of_getElem? (i := 1681) (by decide +kernel)⟩
theorem lw_p59 : lw_okq (⟨"DieLineCheckerModel", "faulty", "(I)V"⟩, 30) := ⟨⟨by decide +kernel, by decide +kernel⟩, List.mem_of_getElem? (i := 1400) (by decide +kernel), List.mem_of_getElem? (i := 1684) (by decide +kernel), List.mem_of_getElem? (i := 1685) (by decide +kernel)⟩
theorem lw_p60 : lw_okq (⟨"DieLineCheckerModel", "numberAt", "(II)I"⟩, 30) := ⟨⟨by decide +kernel, by decide +kernel⟩, List.mem_of_getElem? (i := 1400) (by decide +kernel), List.mem_of_getElem? (i := 1688) (by decide +kernel), List.mem_of_getElem? (i := 1689) (by decide +kernel)⟩
theorem lw_p61 : lw_okq (⟨"DieLineCheckerModel", "carryOut", "(I)V"⟩, 30) := ⟨⟨by decide +kernel, by decide +kernel⟩, List.mem_of_getElem? (i := 1400) (by decide +kernel), List.mem_of_getElem? (i := 1692) (by decide +kernel), List.mem_of_getElem? (i := 1693) (by decide +kernel)⟩
theorem lw_p62 : lw_okq (⟨"DieLineCheckerModel", "limitOf", "(I)I"⟩, 30) := ⟨⟨by decide +kernel, by decide +kernel⟩, List.mem_of_getElem? (i := 1400) (by decide +kernel), List.mem_of_getElem? (i := 1704) (by decide +kernel), List.mem_of_getElem? (i := 1705) (by decide +kernel)⟩
theorem lw_p63 : lw_okq (⟨"DieLineCheckerModel", "findSeams", "(I)V"⟩, 30) := ⟨⟨by decide +kernel, by decide +kernel⟩, List.mem_of_getElem? (i := 1400) (by decide +kernel), List.mem_of_getElem? (i := 1708) (by decide +kernel), List.mem_of_getElem? (i := 1709) (by decide +kernel)⟩
def lw_privs_4 : List (MethodName × Nat) := [(⟨"DieLineCheckerModel", "doPanel", "(IIIIII)I"⟩, 30), (⟨"DieLineCheckerModel", "isPanel", "(I)Z"⟩, 30), (⟨"DieLineCheckerModel", "isHung", "(I)Z"⟩, 30), (⟨"DieLineCheckerModel", "doFlap", "(II)I"⟩, 30), (⟨"DieLineCheckerModel", "doImage", "(III)I"⟩, 30), (⟨"DieLineCheckerModel", "doPlace", "(IIIII)I"⟩, 30), (⟨"DieLineCheckerModel", "skips", "()V"⟩, 30), (⟨"DieLineCheckerModel", "here", "(I)I"⟩, 30), (⟨"DieLineCheckerModel", "readItem", "()V"⟩, 30), (⟨"DieLineCheckerModel", "isDigit", "(I)Z"⟩, 30), (⟨"DieLineCheckerModel", "numberEnd", "(I)I"⟩, 30), (⟨"DieLineCheckerModel", "faulty", "(I)V"⟩, 30), (⟨"DieLineCheckerModel", "numberAt", "(II)I"⟩, 30), (⟨"DieLineCheckerModel", "carryOut", "(I)V"⟩, 30), (⟨"DieLineCheckerModel", "limitOf", "(I)I"⟩, 30), (⟨"DieLineCheckerModel", "findSeams", "(I)V"⟩, 30)]
theorem lw_r4 : ∀ q ∈ lw_privs_4, lw_okq q := List.forall_mem_cons.mpr ⟨lw_p48, List.forall_mem_cons.mpr ⟨lw_p49, List.forall_mem_cons.mpr ⟨lw_p50, List.forall_mem_cons.mpr ⟨lw_p51, List.forall_mem_cons.mpr ⟨lw_p52, List.forall_mem_cons.mpr ⟨lw_p53, List.forall_mem_cons.mpr ⟨lw_p54, List.forall_mem_cons.mpr ⟨lw_p55, List.forall_mem_cons.mpr ⟨lw_p56, List.forall_mem_cons.mpr ⟨lw_p57, List.forall_mem_cons.mpr ⟨lw_p58, List.forall_mem_cons.mpr ⟨lw_p59, List.forall_mem_cons.mpr ⟨lw_p60, List.forall_mem_cons.mpr ⟨lw_p61, List.forall_mem_cons.mpr ⟨lw_p62, List.forall_mem_cons.mpr ⟨lw_p63, fun _ h => absurd h List.not_mem_nil⟩⟩⟩⟩⟩⟩⟩⟩⟩⟩⟩⟩⟩⟩⟩⟩
theorem lw_p64 : lw_okq (⟨"DieLineCheckerModel", "fold", "(I)V"⟩, 30) := ⟨⟨by decide +kernel, by decide +kernel⟩, List.mem_of_getElem? (i := 1400) (by decide +kernel), List.mem_of_getElem? (i := 1712) (by decide +kernel), List.mem_of_getElem? (i := 1713) (by decide +kernel)⟩
theorem lw_p65 : lw_okq (⟨"DieLineCheckerModel", "layBase", "()V"⟩, 30) := ⟨⟨by decide +kernel, by decide +kernel⟩, List.mem_of_getElem? (i := 1400) (by decide +kernel), List.mem_of_getElem? (i := 1716) (by decide +kernel), List.mem_of_getElem? (i := 1717) (by decide +kernel)⟩
theorem lw_p66 : lw_okq (⟨"DieLineCheckerModel", "layHung", "(II)V"⟩, 30) := ⟨⟨by decide +kernel, by decide +kernel⟩, List.mem_of_getElem? (i := 1400) (by decide +kernel), List.mem_of_getElem? (i := 1720) (by decide +kernel), List.mem_of_getElem? (i := 1721) (by decide +kernel)⟩
theorem lw_p67 : lw_okq (⟨"DieLineCheckerModel", "meet", "(IIIII)V"⟩, 30) := ⟨⟨by decide +kernel, by decide +kernel⟩, List.mem_of_getElem? (i := 1400) (by decide +kernel), List.mem_of_getElem? (i := 1724) (by decide +kernel), List.mem_of_getElem? (i := 1725) (by decide +kernel)⟩
theorem lw_p68 : lw_okq (⟨"DieLineCheckerModel", "sideAxis", "(II)I"⟩, 30) := ⟨⟨by decide +kernel, by decide +kernel⟩, List.mem_of_getElem? (i := 1400) (by decide +kernel), List.mem_of_getElem? (i := 1728) (by decide +kernel), List.mem_of_getElem? (i := 1729) (by decide +kernel)⟩
theorem lw_p69 : lw_okq (⟨"DieLineCheckerModel", "sideFrom", "(III)I"⟩, 30) := ⟨⟨by decide +kernel, by decide +kernel⟩, List.mem_of_getElem? (i := 1400) (by decide +kernel), List.mem_of_getElem? (i := 1732) (by decide +kernel), List.mem_of_getElem? (i := 1733) (by decide +kernel)⟩
theorem lw_p70 : lw_okq (⟨"DieLineCheckerModel", "cornerOf", "(III)I"⟩, 30) := ⟨⟨by decide +kernel, by decide +kernel⟩, List.mem_of_getElem? (i := 1400) (by decide +kernel), List.mem_of_getElem? (i := 1739) (by decide +kernel), List.mem_of_getElem? (i := 1740) (by decide +kernel)⟩
theorem lw_p71 : lw_okq (⟨"DieLineCheckerModel", "sideTo", "(III)I"⟩, 30) := ⟨⟨by decide +kernel, by decide +kernel⟩, List.mem_of_getElem? (i := 1400) (by decide +kernel), List.mem_of_getElem? (i := 1749) (by decide +kernel), List.mem_of_getElem? (i := 1750) (by decide +kernel)⟩
theorem lw_p72 : lw_okq (⟨"DieLineCheckerModel", "continueOver", "(IZ)I"⟩, 30) := ⟨⟨by decide +kernel, by decide +kernel⟩, List.mem_of_getElem? (i := 1400) (by decide +kernel), List.mem_of_getElem? (i := 1753) (by decide +kernel), List.mem_of_getElem? (i := 1754) (by decide +kernel)⟩
theorem lw_p73 : lw_okq (⟨"DieLineCheckerModel", "reachOf", "(II)I"⟩, 30) := ⟨⟨by decide +kernel, by decide +kernel⟩, List.mem_of_getElem? (i := 1400) (by decide +kernel), List.mem_of_getElem? (i := 1757) (by decide +kernel), List.mem_of_getElem? (i := 1758) (by decide +kernel)⟩
theorem lw_p74 : lw_okq (⟨"DieLineCheckerModel", "shows", "(I)Z"⟩, 30) := ⟨⟨by decide +kernel, by decide +kernel⟩, List.mem_of_getElem? (i := 1400) (by decide +kernel), List.mem_of_getElem? (i := 1761) (by decide +kernel), List.mem_of_getElem? (i := 1762) (by decide +kernel)⟩
theorem lw_p75 : lw_okq (⟨"DieLineCheckerModel", "turnedSize", "(IZ)I"⟩, 30) := ⟨⟨by decide +kernel, by decide +kernel⟩, List.mem_of_getElem? (i := 1400) (by decide +kernel), List.mem_of_getElem? (i := 1765) (by decide +kernel), List.mem_of_getElem? (i := 1766) (by decide +kernel)⟩
theorem lw_p76 : lw_okq (⟨"DieLineCheckerModel", "imageSize", "(IZ)I"⟩, 30) := ⟨⟨by decide +kernel, by decide +kernel⟩, List.mem_of_getElem? (i := 1400) (by decide +kernel), List.mem_of_getElem? (i := 1769) (by decide +kernel), List.mem_of_getElem? (i := 1770) (by decide +kernel)⟩
theorem lw_p77 : lw_okq (⟨"DieLineCheckerModel", "atEnd", "(IIIIZ)I"⟩, 30) := ⟨⟨by decide +kernel, by decide +kernel⟩, List.mem_of_getElem? (i := 1400) (by decide +kernel), List.mem_of_getElem? (i := 1773) (by decide +kernel), List.mem_of_getElem? (i := 1774) (by decide +kernel)⟩
theorem lw_p78 : lw_okq (⟨"DieLineCheckerModel", "along", "(IIIIZ)I"⟩, 30) := ⟨⟨by decide +kernel, by decide +kernel⟩, List.mem_of_getElem? (i := 1400) (by decide +kernel), List.mem_of_getElem? (i := 1777) (by decide +kernel), List.mem_of_getElem? (i := 1778) (by decide +kernel)⟩
theorem lw_p79 : lw_okq (⟨"DieLineCheckerModel", "imageOn", "(IIIZ)I"⟩, 30) := ⟨⟨by decide +kernel, by decide +kernel⟩, List.mem_of_getElem? (i := 1400) (by decide +kernel), List.mem_of_getElem? (i := 1781) (by decide +kernel), List.mem_of_getElem? (i := 1782) (by decide +kernel)⟩
def lw_privs_5 : List (MethodName × Nat) := [(⟨"DieLineCheckerModel", "fold", "(I)V"⟩, 30), (⟨"DieLineCheckerModel", "layBase", "()V"⟩, 30), (⟨"DieLineCheckerModel", "layHung", "(II)V"⟩, 30), (⟨"DieLineCheckerModel", "meet", "(IIIII)V"⟩, 30), (⟨"DieLineCheckerModel", "sideAxis", "(II)I"⟩, 30), (⟨"DieLineCheckerModel", "sideFrom", "(III)I"⟩, 30), (⟨"DieLineCheckerModel", "cornerOf", "(III)I"⟩, 30), (⟨"DieLineCheckerModel", "sideTo", "(III)I"⟩, 30), (⟨"DieLineCheckerModel", "continueOver", "(IZ)I"⟩, 30), (⟨"DieLineCheckerModel", "reachOf", "(II)I"⟩, 30), (⟨"DieLineCheckerModel", "shows", "(I)Z"⟩, 30), (⟨"DieLineCheckerModel", "turnedSize", "(IZ)I"⟩, 30), (⟨"DieLineCheckerModel", "imageSize", "(IZ)I"⟩, 30), (⟨"DieLineCheckerModel", "atEnd", "(IIIIZ)I"⟩, 30), (⟨"DieLineCheckerModel", "along", "(IIIIZ)I"⟩, 30), (⟨"DieLineCheckerModel", "imageOn", "(IIIZ)I"⟩, 30)]
theorem lw_r5 : ∀ q ∈ lw_privs_5, lw_okq q := List.forall_mem_cons.mpr ⟨lw_p64, List.forall_mem_cons.mpr ⟨lw_p65, List.forall_mem_cons.mpr ⟨lw_p66, List.forall_mem_cons.mpr ⟨lw_p67, List.forall_mem_cons.mpr ⟨lw_p68, List.forall_mem_cons.mpr ⟨lw_p69, List.forall_mem_cons.mpr ⟨lw_p70, List.forall_mem_cons.mpr ⟨lw_p71, List.forall_mem_cons.mpr ⟨lw_p72, List.forall_mem_cons.mpr ⟨lw_p73, List.forall_mem_cons.mpr ⟨lw_p74, List.forall_mem_cons.mpr ⟨lw_p75, List.forall_mem_cons.mpr ⟨lw_p76, List.forall_mem_cons.mpr ⟨lw_p77, List.forall_mem_cons.mpr ⟨lw_p78, List.forall_mem_cons.mpr ⟨lw_p79, fun _ h => absurd h List.not_mem_nil⟩⟩⟩⟩⟩⟩⟩⟩⟩⟩⟩⟩⟩⟩⟩⟩
theorem lw_p80 : lw_okq (⟨"DieLineCheckerModel", "step", "(IIIZ)I"⟩, 30) := ⟨⟨by decide +kernel, by decide +kernel⟩, List.mem_of_getElem? (i := 1400) (by decide +kernel), List.mem_of_getElem? (i := 1788) (by decide +kernel), List.mem_of_getElem? (i := 1789) (by decide +kernel)⟩
theorem lw_p81 : lw_okq (⟨"DieLineCheckerModel", "spreads", "(I)Z"⟩, 30) := ⟨⟨by decide +kernel, by decide +kernel⟩, List.mem_of_getElem? (i := 1400) (by decide +kernel), List.mem_of_getElem? (i := 1802) (by decide +kernel), List.mem_of_getElem? (i := 1803) (by decide +kernel)⟩
theorem lw_p82 : lw_okq (⟨"DieLineCheckerModel", "isFlap", "(I)Z"⟩, 30) := ⟨⟨by decide +kernel, by decide +kernel⟩, List.mem_of_getElem? (i := 1400) (by decide +kernel), List.mem_of_getElem? (i := 1806) (by decide +kernel), List.mem_of_getElem? (i := 1807) (by decide +kernel)⟩
theorem lw_p83 : lw_okq (⟨"DieLineCheckerModel", "findAll", "()V"⟩, 30) := ⟨⟨by decide +kernel, by decide +kernel⟩, List.mem_of_getElem? (i := 1400) (by decide +kernel), List.mem_of_getElem? (i := 1814) (by decide +kernel), List.mem_of_getElem? (i := 1815) (by decide +kernel)⟩
theorem lw_p84 : lw_okq (⟨"DieLineCheckerModel", "findSides", "(II)V"⟩, 30) := ⟨⟨by decide +kernel, by decide +kernel⟩, List.mem_of_getElem? (i := 1400) (by decide +kernel), List.mem_of_getElem? (i := 1818) (by decide +kernel), List.mem_of_getElem? (i := 1819) (by decide +kernel)⟩
theorem lw_p85 : lw_okq (⟨"DieLineCheckerModel", "openOf", "(III)I"⟩, 30) := ⟨⟨by decide +kernel, by decide +kernel⟩, List.mem_of_getElem? (i := 1400) (by decide +kernel), List.mem_of_getElem? (i := 1822) (by decide +kernel), List.mem_of_getElem? (i := 1823) (by decide +kernel)⟩
theorem lw_p86 : lw_okq (⟨"DieLineCheckerModel", "finds", "(IIIII)V"⟩, 30) := ⟨⟨by decide +kernel, by decide +kernel⟩, List.mem_of_getElem? (i := 1400) (by decide +kernel), List.mem_of_getElem? (i := 1826) (by decide +kernel), List.mem_of_getElem? (i := 1827) (by decide +kernel)⟩
theorem lw_p87 : lw_okq (⟨"DieLineCheckerModel", "isFolded", "(II)Z"⟩, 30) := ⟨⟨by decide +kernel, by decide +kernel⟩, List.mem_of_getElem? (i := 1400) (by decide +kernel), List.mem_of_getElem? (i := 1830) (by decide +kernel), List.mem_of_getElem? (i := 1831) (by decide +kernel)⟩
theorem lw_p88 : lw_okq (⟨"DieLineCheckerModel", "findIntrusions", "(II)V"⟩, 30) := ⟨⟨by decide +kernel, by decide +kernel⟩, List.mem_of_getElem? (i := 1400) (by decide +kernel), List.mem_of_getElem? (i := 1834) (by decide +kernel), List.mem_of_getElem? (i := 1835) (by decide +kernel)⟩
theorem lw_p89 : lw_okq (⟨"DieLineCheckerModel", "stripOf", "(II)I"⟩, 30) := ⟨⟨by decide +kernel, by decide +kernel⟩, List.mem_of_getElem? (i := 1400) (by decide +kernel), List.mem_of_getElem? (i := 1838) (by decide +kernel), List.mem_of_getElem? (i := 1839) (by decide +kernel)⟩
theorem lw_p90 : lw_okq (⟨"DieLineCheckerModel", "findInk", "(I)V"⟩, 30) := ⟨⟨by decide +kernel, by decide +kernel⟩, List.mem_of_getElem? (i := 1400) (by decide +kernel), List.mem_of_getElem? (i := 1842) (by decide +kernel), List.mem_of_getElem? (i := 1843) (by decide +kernel)⟩
theorem lw_p91 : lw_okq (⟨"DieLineCheckerModel", "covered", "(II)I"⟩, 30) := ⟨⟨by decide +kernel, by decide +kernel⟩, List.mem_of_getElem? (i := 1400) (by decide +kernel), List.mem_of_getElem? (i := 1846) (by decide +kernel), List.mem_of_getElem? (i := 1847) (by decide +kernel)⟩
theorem lw_p92 : lw_okq (⟨"DieLineCheckerModel", "doubled", "(III)I"⟩, 30) := ⟨⟨by decide +kernel, by decide +kernel⟩, List.mem_of_getElem? (i := 1400) (by decide +kernel), List.mem_of_getElem? (i := 1850) (by decide +kernel), List.mem_of_getElem? (i := 1851) (by decide +kernel)⟩
theorem lw_p93 : lw_okq (⟨"DieLineCheckerModel", "shared", "(III)I"⟩, 30) := ⟨⟨by decide +kernel, by decide +kernel⟩, List.mem_of_getElem? (i := 1400) (by decide +kernel), List.mem_of_getElem? (i := 1854) (by decide +kernel), List.mem_of_getElem? (i := 1855) (by decide +kernel)⟩
theorem lw_p94 : lw_okq (⟨"DieLineCheckerModel", "crossing", "(III)I"⟩, 30) := ⟨⟨by decide +kernel, by decide +kernel⟩, List.mem_of_getElem? (i := 1400) (by decide +kernel), List.mem_of_getElem? (i := 1858) (by decide +kernel), List.mem_of_getElem? (i := 1859) (by decide +kernel)⟩
theorem lw_p95 : lw_okq (⟨"DieLineCheckerModel", "cuts", "(III)Z"⟩, 30) := ⟨⟨by decide +kernel, by decide +kernel⟩, List.mem_of_getElem? (i := 1400) (by decide +kernel), List.mem_of_getElem? (i := 1862) (by decide +kernel), List.mem_of_getElem? (i := 1863) (by decide +kernel)⟩
def lw_privs_6 : List (MethodName × Nat) := [(⟨"DieLineCheckerModel", "step", "(IIIZ)I"⟩, 30), (⟨"DieLineCheckerModel", "spreads", "(I)Z"⟩, 30), (⟨"DieLineCheckerModel", "isFlap", "(I)Z"⟩, 30), (⟨"DieLineCheckerModel", "findAll", "()V"⟩, 30), (⟨"DieLineCheckerModel", "findSides", "(II)V"⟩, 30), (⟨"DieLineCheckerModel", "openOf", "(III)I"⟩, 30), (⟨"DieLineCheckerModel", "finds", "(IIIII)V"⟩, 30), (⟨"DieLineCheckerModel", "isFolded", "(II)Z"⟩, 30), (⟨"DieLineCheckerModel", "findIntrusions", "(II)V"⟩, 30), (⟨"DieLineCheckerModel", "stripOf", "(II)I"⟩, 30), (⟨"DieLineCheckerModel", "findInk", "(I)V"⟩, 30), (⟨"DieLineCheckerModel", "covered", "(II)I"⟩, 30), (⟨"DieLineCheckerModel", "doubled", "(III)I"⟩, 30), (⟨"DieLineCheckerModel", "shared", "(III)I"⟩, 30), (⟨"DieLineCheckerModel", "crossing", "(III)I"⟩, 30), (⟨"DieLineCheckerModel", "cuts", "(III)Z"⟩, 30)]
theorem lw_r6 : ∀ q ∈ lw_privs_6, lw_okq q := List.forall_mem_cons.mpr ⟨lw_p80, List.forall_mem_cons.mpr ⟨lw_p81, List.forall_mem_cons.mpr ⟨lw_p82, List.forall_mem_cons.mpr ⟨lw_p83, List.forall_mem_cons.mpr ⟨lw_p84, List.forall_mem_cons.mpr ⟨lw_p85, List.forall_mem_cons.mpr ⟨lw_p86, List.forall_mem_cons.mpr ⟨lw_p87, List.forall_mem_cons.mpr ⟨lw_p88, List.forall_mem_cons.mpr ⟨lw_p89, List.forall_mem_cons.mpr ⟨lw_p90, List.forall_mem_cons.mpr ⟨lw_p91, List.forall_mem_cons.mpr ⟨lw_p92, List.forall_mem_cons.mpr ⟨lw_p93, List.forall_mem_cons.mpr ⟨lw_p94, List.forall_mem_cons.mpr ⟨lw_p95, fun _ h => absurd h List.not_mem_nil⟩⟩⟩⟩⟩⟩⟩⟩⟩⟩⟩⟩⟩⟩⟩⟩
theorem lw_p96 : lw_okq (⟨"DieLineCheckerModel", "mismatch", "(I)I"⟩, 30) := ⟨⟨by decide +kernel, by decide +kernel⟩, List.mem_of_getElem? (i := 1400) (by decide +kernel), List.mem_of_getElem? (i := 1866) (by decide +kernel), List.mem_of_getElem? (i := 1867) (by decide +kernel)⟩
theorem lw_p97 : lw_okq (⟨"DieLineCheckerModel", "placed", "(I)I"⟩, 30) := ⟨⟨by decide +kernel, by decide +kernel⟩, List.mem_of_getElem? (i := 1400) (by decide +kernel), List.mem_of_getElem? (i := 1874) (by decide +kernel), List.mem_of_getElem? (i := 1875) (by decide +kernel)⟩
theorem lw_p98 : lw_okq (⟨"DieLineCheckerModel", "isAhead", "(II)Z"⟩, 30) := ⟨⟨by decide +kernel, by decide +kernel⟩, List.mem_of_getElem? (i := 1400) (by decide +kernel), List.mem_of_getElem? (i := 1878) (by decide +kernel), List.mem_of_getElem? (i := 1879) (by decide +kernel)⟩
theorem lw_p99 : lw_okq (⟨"DieLineCheckerModel", "costs", "(I)J"⟩, 30) := ⟨⟨by decide +kernel, by decide +kernel⟩, List.mem_of_getElem? (i := 1400) (by decide +kernel), List.mem_of_getElem? (i := 1886) (by decide +kernel), List.mem_of_getElem? (i := 1887) (by decide +kernel)⟩
theorem lw_p100 : lw_okq (⟨"DieLineCheckerModel", "sideX", "(II)I"⟩, 30) := ⟨⟨by decide +kernel, by decide +kernel⟩, List.mem_of_getElem? (i := 1400) (by decide +kernel), List.mem_of_getElem? (i := 1911) (by decide +kernel), List.mem_of_getElem? (i := 1912) (by decide +kernel)⟩
theorem lw_p101 : lw_okq (⟨"DieLineCheckerModel", "sideY", "(II)I"⟩, 30) := ⟨⟨by decide +kernel, by decide +kernel⟩, List.mem_of_getElem? (i := 1400) (by decide +kernel), List.mem_of_getElem? (i := 1915) (by decide +kernel), List.mem_of_getElem? (i := 1916) (by decide +kernel)⟩
theorem lw_p102 : lw_okq (⟨"DieLineCheckerModel", "isFold", "(ZII)Z"⟩, 30) := ⟨⟨by decide +kernel, by decide +kernel⟩, List.mem_of_getElem? (i := 1400) (by decide +kernel), List.mem_of_getElem? (i := 1919) (by decide +kernel), List.mem_of_getElem? (i := 1920) (by decide +kernel)⟩
theorem lw_p103 : lw_okq (⟨"DieLineCheckerModel", "isOn", "(IIZII)Z"⟩, 30) := ⟨⟨by decide +kernel, by decide +kernel⟩, List.mem_of_getElem? (i := 1400) (by decide +kernel), List.mem_of_getElem? (i := 1923) (by decide +kernel), List.mem_of_getElem? (i := 1924) (by decide +kernel)⟩
theorem lw_p104 : lw_okq (⟨"DieLineCheckerModel", "isCounted", "(IIZII)Z"⟩, 30) := ⟨⟨by decide +kernel, by decide +kernel⟩, List.mem_of_getElem? (i := 1400) (by decide +kernel), List.mem_of_getElem? (i := 1927) (by decide +kernel), List.mem_of_getElem? (i := 1928) (by decide +kernel)⟩
theorem lw_p105 : lw_okq (⟨"DieLineCheckerModel", "pitchOf", "(IIZ)I"⟩, 30) := ⟨⟨by decide +kernel, by decide +kernel⟩, List.mem_of_getElem? (i := 1400) (by decide +kernel), List.mem_of_getElem? (i := 1939) (by decide +kernel), List.mem_of_getElem? (i := 1940) (by decide +kernel)⟩
theorem lw_p106 : lw_okq (⟨"DieLineCheckerModel", "isFree", "(IIZI)Z"⟩, 30) := ⟨⟨by decide +kernel, by decide +kernel⟩, List.mem_of_getElem? (i := 1400) (by decide +kernel), List.mem_of_getElem? (i := 1943) (by decide +kernel), List.mem_of_getElem? (i := 1944) (by decide +kernel)⟩
theorem lw_p107 : lw_okq (⟨"DieLineCheckerModel", "leastOf", "(I)I"⟩, 30) := ⟨⟨by decide +kernel, by decide +kernel⟩, List.mem_of_getElem? (i := 1400) (by decide +kernel), List.mem_of_getElem? (i := 1947) (by decide +kernel), List.mem_of_getElem? (i := 1948) (by decide +kernel)⟩
theorem lw_p108 : lw_okq (⟨"DieLineCheckerModel", "greatestOf", "(I)I"⟩, 30) := ⟨⟨by decide +kernel, by decide +kernel⟩, List.mem_of_getElem? (i := 1400) (by decide +kernel), List.mem_of_getElem? (i := 1951) (by decide +kernel), List.mem_of_getElem? (i := 1952) (by decide +kernel)⟩
theorem lw_p109 : lw_okq (⟨"DieLineCheckerModel", "isNear", "(IIIII)Z"⟩, 30) := ⟨⟨by decide +kernel, by decide +kernel⟩, List.mem_of_getElem? (i := 1400) (by decide +kernel), List.mem_of_getElem? (i := 1955) (by decide +kernel), List.mem_of_getElem? (i := 1956) (by decide +kernel)⟩
theorem lw_p110 : lw_okq (⟨"DieLineCheckerModel", "isShut", "(I)Z"⟩, 30) := ⟨⟨by decide +kernel, by decide +kernel⟩, List.mem_of_getElem? (i := 1400) (by decide +kernel), List.mem_of_getElem? (i := 1994) (by decide +kernel), List.mem_of_getElem? (i := 1995) (by decide +kernel)⟩
theorem lw_p111 : lw_okq (⟨"DieLineCheckerModel", "crossingsBy", "(I)I"⟩, 30) := ⟨⟨by decide +kernel, by decide +kernel⟩, List.mem_of_getElem? (i := 1400) (by decide +kernel), List.mem_of_getElem? (i := 2008) (by decide +kernel), List.mem_of_getElem? (i := 2009) (by decide +kernel)⟩
def lw_privs_7 : List (MethodName × Nat) := [(⟨"DieLineCheckerModel", "mismatch", "(I)I"⟩, 30), (⟨"DieLineCheckerModel", "placed", "(I)I"⟩, 30), (⟨"DieLineCheckerModel", "isAhead", "(II)Z"⟩, 30), (⟨"DieLineCheckerModel", "costs", "(I)J"⟩, 30), (⟨"DieLineCheckerModel", "sideX", "(II)I"⟩, 30), (⟨"DieLineCheckerModel", "sideY", "(II)I"⟩, 30), (⟨"DieLineCheckerModel", "isFold", "(ZII)Z"⟩, 30), (⟨"DieLineCheckerModel", "isOn", "(IIZII)Z"⟩, 30), (⟨"DieLineCheckerModel", "isCounted", "(IIZII)Z"⟩, 30), (⟨"DieLineCheckerModel", "pitchOf", "(IIZ)I"⟩, 30), (⟨"DieLineCheckerModel", "isFree", "(IIZI)Z"⟩, 30), (⟨"DieLineCheckerModel", "leastOf", "(I)I"⟩, 30), (⟨"DieLineCheckerModel", "greatestOf", "(I)I"⟩, 30), (⟨"DieLineCheckerModel", "isNear", "(IIIII)Z"⟩, 30), (⟨"DieLineCheckerModel", "isShut", "(I)Z"⟩, 30), (⟨"DieLineCheckerModel", "crossingsBy", "(I)I"⟩, 30)]
theorem lw_r7 : ∀ q ∈ lw_privs_7, lw_okq q := List.forall_mem_cons.mpr ⟨lw_p96, List.forall_mem_cons.mpr ⟨lw_p97, List.forall_mem_cons.mpr ⟨lw_p98, List.forall_mem_cons.mpr ⟨lw_p99, List.forall_mem_cons.mpr ⟨lw_p100, List.forall_mem_cons.mpr ⟨lw_p101, List.forall_mem_cons.mpr ⟨lw_p102, List.forall_mem_cons.mpr ⟨lw_p103, List.forall_mem_cons.mpr ⟨lw_p104, List.forall_mem_cons.mpr ⟨lw_p105, List.forall_mem_cons.mpr ⟨lw_p106, List.forall_mem_cons.mpr ⟨lw_p107, List.forall_mem_cons.mpr ⟨lw_p108, List.forall_mem_cons.mpr ⟨lw_p109, List.forall_mem_cons.mpr ⟨lw_p110, List.forall_mem_cons.mpr ⟨lw_p111, fun _ h => absurd h List.not_mem_nil⟩⟩⟩⟩⟩⟩⟩⟩⟩⟩⟩⟩⟩⟩⟩⟩
theorem lw_p112 : lw_okq (⟨"DieLineCheckerModel", "turnedPanels", "()I"⟩, 30) := ⟨⟨by decide +kernel, by decide +kernel⟩, List.mem_of_getElem? (i := 1400) (by decide +kernel), List.mem_of_getElem? (i := 2031) (by decide +kernel), List.mem_of_getElem? (i := 2032) (by decide +kernel)⟩
theorem lw_p113 : lw_okq (⟨"DieLineCheckerModel", "flaps", "()I"⟩, 30) := ⟨⟨by decide +kernel, by decide +kernel⟩, List.mem_of_getElem? (i := 1400) (by decide +kernel), List.mem_of_getElem? (i := 2035) (by decide +kernel), List.mem_of_getElem? (i := 2036) (by decide +kernel)⟩
theorem lw_p114 : lw_okq (⟨"DieLineCheckerModel", "definedImages", "()I"⟩, 30) := ⟨⟨by decide +kernel, by decide +kernel⟩, List.mem_of_getElem? (i := 1400) (by decide +kernel), List.mem_of_getElem? (i := 2039) (by decide +kernel), List.mem_of_getElem? (i := 2040) (by decide +kernel)⟩
def lw_privs_8 : List (MethodName × Nat) := [(⟨"DieLineCheckerModel", "turnedPanels", "()I"⟩, 30), (⟨"DieLineCheckerModel", "flaps", "()I"⟩, 30), (⟨"DieLineCheckerModel", "definedImages", "()I"⟩, 30)]
theorem lw_r8 : ∀ q ∈ lw_privs_8, lw_okq q := List.forall_mem_cons.mpr ⟨lw_p112, List.forall_mem_cons.mpr ⟨lw_p113, List.forall_mem_cons.mpr ⟨lw_p114, fun _ h => absurd h List.not_mem_nil⟩⟩⟩
def lw_privs : List (MethodName × Nat) := lw_privs_1 ++ (lw_privs_2 ++ (lw_privs_3 ++ (lw_privs_4 ++ (lw_privs_5 ++ (lw_privs_6 ++ (lw_privs_7 ++ (lw_privs_8)))))))
def lw_tbl : List Cond := k2_sels lw_privs ++ tables_1
theorem lw_privs_ok : ∀ q ∈ lw_privs, lw_okq q := by
  show ∀ q ∈ lw_privs_1 ++ (lw_privs_2 ++ (lw_privs_3 ++ (lw_privs_4 ++ (lw_privs_5 ++ (lw_privs_6 ++ (lw_privs_7 ++ (lw_privs_8))))))), lw_okq q
  exact List.forall_mem_append.mpr ⟨lw_r1, List.forall_mem_append.mpr ⟨lw_r2, List.forall_mem_append.mpr ⟨lw_r3, List.forall_mem_append.mpr ⟨lw_r4, List.forall_mem_append.mpr ⟨lw_r5, List.forall_mem_append.mpr ⟨lw_r6, List.forall_mem_append.mpr ⟨lw_r7, lw_r8⟩⟩⟩⟩⟩⟩⟩
end
section
def RX0 : String := "DieLineChecker$Artwork"
def TX0 : u_T := fun k => match k with
  | 0 => ("DieLineChecker$Artwork", "orientation", "I", false)
  | 1 => ("DieLineChecker$Artwork", "px", "I", false)
  | 2 => ("DieLineChecker$Artwork", "py", "I", false)
  | 3 => ("DieLineChecker$Artwork", "onto", "I", false)
  | 4 => ("DieLineChecker$Artwork", "image", "I", false)
  | 5 => ("DieLineChecker$Artwork", "seams", "LDieLineChecker$Seams;", true)
  | 6 => ("DieLineChecker$Artwork", "folding", "LDieLineChecker$Folding;", true)
  | 7 => ("DieLineChecker$Artwork", "pointX", "[I", true)
  | 8 => ("DieLineChecker$Artwork", "pointY", "[I", true)
  | 9 => ("DieLineChecker$Artwork", "us", "[I", true)
  | _ => ("DieLineChecker$Artwork", "vs", "[I", true)
def tyX0 : Nat → FieldType := fun k => match k with
  | 0 => .int
  | 1 => .int
  | 2 => .int
  | 3 => .int
  | 4 => .int
  | 5 => .object "DieLineChecker$Seams"
  | 6 => .object "DieLineChecker$Folding"
  | 7 => .array .int
  | 8 => .array .int
  | 9 => .array .int
  | _ => .array .int
theorem nmX0 : ∀ a, a < 11 → ∀ b, b < 11 → a ≠ b → (TX0 a).2.1 ≠ (TX0 b).2.1 := by decide +kernel
theorem tyX0_ok : ∀ k, k < 11 → parseFieldDescriptor (TX0 k).2.2.1 = some (tyX0 k) := by decide +kernel
abbrev cX0_init : ByteArray := prog_2_method_1_code
def yX0_init : MethodName := ⟨RX0, "<init>", "()V"⟩
abbrev cX0_turnedA : ByteArray := prog_2_method_2_code
def yX0_turnedA : MethodName := ⟨RX0, "turnedA", "(IIIII)I"⟩
abbrev cX0_turnedB : ByteArray := prog_2_method_3_code
def yX0_turnedB : MethodName := ⟨RX0, "turnedB", "(IIIII)I"⟩
abbrev cX0_originalU : ByteArray := prog_2_method_4_code
def yX0_originalU : MethodName := ⟨RX0, "originalU", "(IIII)I"⟩
abbrev cX0_originalV : ByteArray := prog_2_method_5_code
def yX0_originalV : MethodName := ⟨RX0, "originalV", "(IIII)I"⟩
abbrev cX0_imageU : ByteArray := prog_2_method_6_code
def yX0_imageU : MethodName := ⟨RX0, "imageU", "(LDieLineChecker$Design;LDieLineChecker$Panel;II)I"⟩
abbrev cX0_imageV : ByteArray := prog_2_method_7_code
def yX0_imageV : MethodName := ⟨RX0, "imageV", "(LDieLineChecker$Design;LDieLineChecker$Panel;II)I"⟩
abbrev cX0_rightEnd : ByteArray := prog_2_method_8_code
def yX0_rightEnd : MethodName := ⟨RX0, "rightEnd", "(LDieLineChecker$Design;LDieLineChecker$Panel;)I"⟩
abbrev cX0_upperEnd : ByteArray := prog_2_method_9_code
def yX0_upperEnd : MethodName := ⟨RX0, "upperEnd", "(LDieLineChecker$Design;LDieLineChecker$Panel;)I"⟩
abbrev cX0_shows : ByteArray := prog_2_method_10_code
def yX0_shows : MethodName := ⟨RX0, "shows", "(LDieLineChecker$Design;LDieLineChecker$Panel;)Z"⟩
abbrev cX0_isSeen : ByteArray := prog_2_method_11_code
def yX0_isSeen : MethodName := ⟨RX0, "isSeen", "(LDieLineChecker$Panel;II)Z"⟩
abbrev cX0_reachAt : ByteArray := prog_2_method_12_code
def yX0_reachAt : MethodName := ⟨RX0, "reachAt", "(LDieLineChecker$Design;LDieLineChecker$Panel;I)I"⟩
abbrev cX0_takePoints : ByteArray := prog_2_method_13_code
def yX0_takePoints : MethodName := ⟨RX0, "takePoints", "(I)V"⟩
abbrev cX0_takePoint : ByteArray := prog_2_method_14_code
def yX0_takePoint : MethodName := ⟨RX0, "takePoint", "(III)V"⟩
abbrev cX0_takeCoordinates : ByteArray := prog_2_method_15_code
def yX0_takeCoordinates : MethodName := ⟨RX0, "takeCoordinates", "(LDieLineChecker$Design;LDieLineChecker$Panel;I)V"⟩
abbrev cX0_mismatch : ByteArray := prog_2_method_16_code
def yX0_mismatch : MethodName := ⟨RX0, "mismatch", "(LDieLineChecker$Design;I)I"⟩
abbrev cX0_plan : ByteArray := prog_2_method_17_code
def yX0_plan : MethodName := ⟨RX0, "plan", "(LDieLineChecker$Design;IZ)Z"⟩
abbrev cX0_agrees : ByteArray := prog_2_method_18_code
def yX0_agrees : MethodName := ⟨RX0, "agrees", "(LDieLineChecker$Design;IZ)Z"⟩
abbrev cX0_carryOut : ByteArray := prog_2_method_19_code
def yX0_carryOut : MethodName := ⟨RX0, "carryOut", "(LDieLineChecker$Design;)V"⟩
abbrev cX0_spread : ByteArray := prog_2_method_20_code
def yX0_spread : MethodName := ⟨RX0, "spread", "(LDieLineChecker$Design;I)I"⟩
abbrev cX0_spreadOnce : ByteArray := prog_2_method_21_code
def yX0_spreadOnce : MethodName := ⟨RX0, "spreadOnce", "(LDieLineChecker$Design;I)Z"⟩
def RX1 : String := "DieLineChecker$Blank"
def TX1 : u_T := fun k => match k with
  | 0 => ("DieLineChecker$Blank", "cover", "LDieLineChecker$Cover;", true)
  | _ => ("DieLineChecker$Blank", "taken", "[Z", true)
def tyX1 : Nat → FieldType := fun k => match k with
  | 0 => .object "DieLineChecker$Cover"
  | _ => .array .boolean
theorem nmX1 : ∀ a, a < 2 → ∀ b, b < 2 → a ≠ b → (TX1 a).2.1 ≠ (TX1 b).2.1 := by decide +kernel
theorem tyX1_ok : ∀ k, k < 2 → parseFieldDescriptor (TX1 k).2.2.1 = some (tyX1 k) := by decide +kernel
abbrev cX1_init : ByteArray := prog_3_method_1_code
def yX1_init : MethodName := ⟨RX1, "<init>", "()V"⟩
abbrev cX1_creases : ByteArray := prog_3_method_2_code
def yX1_creases : MethodName := ⟨RX1, "creases", "(LDieLineChecker$Design;)I"⟩
abbrev cX1_cuts : ByteArray := prog_3_method_3_code
def yX1_cuts : MethodName := ⟨RX1, "cuts", "(LDieLineChecker$Design;)I"⟩
abbrev cX1_newLine : ByteArray := prog_3_method_4_code
def yX1_newLine : MethodName := ⟨RX1, "newLine", "(LDieLineChecker$Design;II)I"⟩
abbrev cX1_lineOf : ByteArray := prog_3_method_5_code
def yX1_lineOf : MethodName := ⟨RX1, "lineOf", "(LDieLineChecker$Panel;I)I"⟩
abbrev cX1_copiesInRow : ByteArray := prog_3_method_6_code
def yX1_copiesInRow : MethodName := ⟨RX1, "copiesInRow", "(LDieLineChecker$Design;II)I"⟩
abbrev cX1_smallest : ByteArray := prog_3_method_7_code
def yX1_smallest : MethodName := ⟨RX1, "smallest", "(LDieLineChecker$Design;I)I"⟩
abbrev cX1_greatest : ByteArray := prog_3_method_8_code
def yX1_greatest : MethodName := ⟨RX1, "greatest", "(LDieLineChecker$Design;I)I"⟩
abbrev cX1_leastPitch : ByteArray := prog_3_method_9_code
def yX1_leastPitch : MethodName := ⟨RX1, "leastPitch", "(LDieLineChecker$Design;IIZ)I"⟩
abbrev cX1_take : ByteArray := prog_3_method_10_code
def yX1_take : MethodName := ⟨RX1, "take", "(II)V"⟩
abbrev cX1_isFree : ByteArray := prog_3_method_11_code
def yX1_isFree : MethodName := ⟨RX1, "isFree", "(II)Z"⟩
def RX2 : String := "DieLineChecker$Cover"
def TX2 : u_T := fun k => match k with
  | 0 => ("DieLineChecker$Cover", "size", "I", false)
  | 1 => ("DieLineChecker$Cover", "lows", "[I", true)
  | _ => ("DieLineChecker$Cover", "highs", "[I", true)
def tyX2 : Nat → FieldType := fun k => match k with
  | 0 => .int
  | 1 => .array .int
  | _ => .array .int
theorem nmX2 : ∀ a, a < 3 → ∀ b, b < 3 → a ≠ b → (TX2 a).2.1 ≠ (TX2 b).2.1 := by decide +kernel
theorem tyX2_ok : ∀ k, k < 3 → parseFieldDescriptor (TX2 k).2.2.1 = some (tyX2 k) := by decide +kernel
abbrev cX2_init : ByteArray := prog_4_method_1_code
def yX2_init : MethodName := ⟨RX2, "<init>", "()V"⟩
abbrev cX2_empty : ByteArray := prog_4_method_2_code
def yX2_empty : MethodName := ⟨RX2, "empty", "()V"⟩
abbrev cX2_add : ByteArray := prog_4_method_3_code
def yX2_add : MethodName := ⟨RX2, "add", "(II)V"⟩
abbrev cX2_uncovered : ByteArray := prog_4_method_4_code
def yX2_uncovered : MethodName := ⟨RX2, "uncovered", "(II)I"⟩
def RX3 : String := "DieLineChecker$Design"
def TX3 : u_T := fun k => match k with
  | 0 => ("DieLineChecker$Design", "imageWidth", "[I", true)
  | 1 => ("DieLineChecker$Design", "imageHeight", "[I", true)
  | 2 => ("DieLineChecker$Design", "sheetWidth", "I", false)
  | 3 => ("DieLineChecker$Design", "sheetHeight", "I", false)
  | 4 => ("DieLineChecker$Design", "panelCount", "I", false)
  | 5 => ("DieLineChecker$Design", "panels", "[LDieLineChecker$Panel;", true)
  | _ => ("DieLineChecker$Design", "nobody", "LDieLineChecker$Panel;", true)
def tyX3 : Nat → FieldType := fun k => match k with
  | 0 => .array .int
  | 1 => .array .int
  | 2 => .int
  | 3 => .int
  | 4 => .int
  | 5 => .array (.object "DieLineChecker$Panel")
  | _ => .object "DieLineChecker$Panel"
theorem nmX3 : ∀ a, a < 7 → ∀ b, b < 7 → a ≠ b → (TX3 a).2.1 ≠ (TX3 b).2.1 := by decide +kernel
theorem tyX3_ok : ∀ k, k < 7 → parseFieldDescriptor (TX3 k).2.2.1 = some (tyX3 k) := by decide +kernel
abbrev cX3_init : ByteArray := prog_5_method_1_code
def yX3_init : MethodName := ⟨RX3, "<init>", "()V"⟩
abbrev cX3_empty : ByteArray := prog_5_method_2_code
def yX3_empty : MethodName := ⟨RX3, "empty", "()V"⟩
abbrev cX3_become : ByteArray := prog_5_method_3_code
def yX3_become : MethodName := ⟨RX3, "become", "(LDieLineChecker$Design;)V"⟩
abbrev cX3_panelAt : ByteArray := prog_5_method_4_code
def yX3_panelAt : MethodName := ⟨RX3, "panelAt", "(I)LDieLineChecker$Panel;"⟩
abbrev cX3_has : ByteArray := prog_5_method_5_code
def yX3_has : MethodName := ⟨RX3, "has", "(I)Z"⟩
abbrev cX3_hangs : ByteArray := prog_5_method_6_code
def yX3_hangs : MethodName := ⟨RX3, "hangs", "(I)Z"⟩
abbrev cX3_hasImage : ByteArray := prog_5_method_7_code
def yX3_hasImage : MethodName := ⟨RX3, "hasImage", "(I)Z"⟩
abbrev cX3_imageWidthOf : ByteArray := prog_5_method_8_code
def yX3_imageWidthOf : MethodName := ⟨RX3, "imageWidthOf", "(I)I"⟩
abbrev cX3_imageHeightOf : ByteArray := prog_5_method_9_code
def yX3_imageHeightOf : MethodName := ⟨RX3, "imageHeightOf", "(I)I"⟩
abbrev cX3_sheetFault : ByteArray := prog_5_method_10_code
def yX3_sheetFault : MethodName := ⟨RX3, "sheetFault", "(II)I"⟩
abbrev cX3_changeSheet : ByteArray := prog_5_method_11_code
def yX3_changeSheet : MethodName := ⟨RX3, "changeSheet", "(II)I"⟩
abbrev cX3_baseFault : ByteArray := prog_5_method_12_code
def yX3_baseFault : MethodName := ⟨RX3, "baseFault", "(IIII)I"⟩
abbrev cX3_startBase : ByteArray := prog_5_method_13_code
def yX3_startBase : MethodName := ⟨RX3, "startBase", "(IIII)I"⟩
abbrev cX3_hangFault : ByteArray := prog_5_method_14_code
def yX3_hangFault : MethodName := ⟨RX3, "hangFault", "(IIIIII)I"⟩
abbrev cX3_hang : ByteArray := prog_5_method_15_code
def yX3_hang : MethodName := ⟨RX3, "hang", "(IIIIII)I"⟩
abbrev cX3_draft : ByteArray := prog_5_method_16_code
def yX3_draft : MethodName := ⟨RX3, "draft", "(IIIIII)V"⟩
abbrev cX3_layOut : ByteArray := prog_5_method_17_code
def yX3_layOut : MethodName := ⟨RX3, "layOut", "(LDieLineChecker$Panel;LDieLineChecker$Panel;)V"⟩
abbrev cX3_layOutAll : ByteArray := prog_5_method_18_code
def yX3_layOutAll : MethodName := ⟨RX3, "layOutAll", "()V"⟩
abbrev cX3_fits : ByteArray := prog_5_method_19_code
def yX3_fits : MethodName := ⟨RX3, "fits", "(I)Z"⟩
abbrev cX3_isValid : ByteArray := prog_5_method_20_code
def yX3_isValid : MethodName := ⟨RX3, "isValid", "()Z"⟩
abbrev cX3_dropFault : ByteArray := prog_5_method_21_code
def yX3_dropFault : MethodName := ⟨RX3, "dropFault", "()I"⟩
abbrev cX3_dropLast : ByteArray := prog_5_method_22_code
def yX3_dropLast : MethodName := ⟨RX3, "dropLast", "()I"⟩
abbrev cX3_turnFold : ByteArray := prog_5_method_23_code
def yX3_turnFold : MethodName := ⟨RX3, "turnFold", "(II)I"⟩
abbrev cX3_sizeFault : ByteArray := prog_5_method_24_code
def yX3_sizeFault : MethodName := ⟨RX3, "sizeFault", "(III)I"⟩
abbrev cX3_changeSize : ByteArray := prog_5_method_25_code
def yX3_changeSize : MethodName := ⟨RX3, "changeSize", "(III)I"⟩
abbrev cX3_flapFault : ByteArray := prog_5_method_26_code
def yX3_flapFault : MethodName := ⟨RX3, "flapFault", "(II)I"⟩
abbrev cX3_changeTarget : ByteArray := prog_5_method_27_code
def yX3_changeTarget : MethodName := ⟨RX3, "changeTarget", "(II)I"⟩
abbrev cX3_imageFault : ByteArray := prog_5_method_28_code
def yX3_imageFault : MethodName := ⟨RX3, "imageFault", "(III)I"⟩
abbrev cX3_changeImage : ByteArray := prog_5_method_29_code
def yX3_changeImage : MethodName := ⟨RX3, "changeImage", "(III)I"⟩
abbrev cX3_printFault : ByteArray := prog_5_method_30_code
def yX3_printFault : MethodName := ⟨RX3, "printFault", "(IIIII)I"⟩
abbrev cX3_print : ByteArray := prog_5_method_31_code
def yX3_print : MethodName := ⟨RX3, "print", "(IIIII)I"⟩
abbrev cX3_bareFault : ByteArray := prog_5_method_32_code
def yX3_bareFault : MethodName := ⟨RX3, "bareFault", "(I)I"⟩
abbrev cX3_wipe : ByteArray := prog_5_method_33_code
def yX3_wipe : MethodName := ⟨RX3, "wipe", "(I)I"⟩
abbrev cX3_foldedPanels : ByteArray := prog_5_method_34_code
def yX3_foldedPanels : MethodName := ⟨RX3, "foldedPanels", "()I"⟩
abbrev cX3_flaps : ByteArray := prog_5_method_35_code
def yX3_flaps : MethodName := ⟨RX3, "flaps", "()I"⟩
abbrev cX3_definedImages : ByteArray := prog_5_method_36_code
def yX3_definedImages : MethodName := ⟨RX3, "definedImages", "()I"⟩
abbrev cX3_isAllFolds : ByteArray := prog_5_method_37_code
def yX3_isAllFolds : MethodName := ⟨RX3, "isAllFolds", "(II)Z"⟩
def RX4 : String := "DieLineChecker$Findings"
def TX4 : u_T := fun k => match k with
  | 0 => ("DieLineChecker$Findings", "size", "I", false)
  | 1 => ("DieLineChecker$Findings", "sum", "J", false)
  | 2 => ("DieLineChecker$Findings", "limits", "[I", true)
  | 3 => ("DieLineChecker$Findings", "weights", "[I", true)
  | 4 => ("DieLineChecker$Findings", "artwork", "LDieLineChecker$Artwork;", true)
  | 5 => ("DieLineChecker$Findings", "seams", "LDieLineChecker$Seams;", true)
  | 6 => ("DieLineChecker$Findings", "folding", "LDieLineChecker$Folding;", true)
  | _ => ("DieLineChecker$Findings", "keys", "[J", true)
def tyX4 : Nat → FieldType := fun k => match k with
  | 0 => .int
  | 1 => .long
  | 2 => .array .int
  | 3 => .array .int
  | 4 => .object "DieLineChecker$Artwork"
  | 5 => .object "DieLineChecker$Seams"
  | 6 => .object "DieLineChecker$Folding"
  | _ => .array .long
theorem nmX4 : ∀ a, a < 8 → ∀ b, b < 8 → a ≠ b → (TX4 a).2.1 ≠ (TX4 b).2.1 := by decide +kernel
theorem tyX4_ok : ∀ k, k < 8 → parseFieldDescriptor (TX4 k).2.2.1 = some (tyX4 k) := by decide +kernel
abbrev cX4_init : ByteArray := prog_6_method_1_code
def yX4_init : MethodName := ⟨RX4, "<init>", "()V"⟩
abbrev cX4_limit : ByteArray := prog_6_method_2_code
def yX4_limit : MethodName := ⟨RX4, "limit", "(I)I"⟩
abbrev cX4_weight : ByteArray := prog_6_method_3_code
def yX4_weight : MethodName := ⟨RX4, "weight", "(I)I"⟩
abbrev cX4_collect : ByteArray := prog_6_method_4_code
def yX4_collect : MethodName := ⟨RX4, "collect", "(LDieLineChecker$Design;)V"⟩
abbrev cX4_add : ByteArray := prog_6_method_5_code
def yX4_add : MethodName := ⟨RX4, "add", "(IIIII)V"⟩
abbrev cX4_collectOpen : ByteArray := prog_6_method_6_code
def yX4_collectOpen : MethodName := ⟨RX4, "collectOpen", "(I)V"⟩
abbrev cX4_collectPairs : ByteArray := prog_6_method_7_code
def yX4_collectPairs : MethodName := ⟨RX4, "collectPairs", "(LDieLineChecker$Design;)V"⟩
abbrev cX4_collectFlap : ByteArray := prog_6_method_8_code
def yX4_collectFlap : MethodName := ⟨RX4, "collectFlap", "(LDieLineChecker$Design;I)V"⟩
abbrev cX4_inkDistance : ByteArray := prog_6_method_9_code
def yX4_inkDistance : MethodName := ⟨RX4, "inkDistance", "(LDieLineChecker$Design;LDieLineChecker$Panel;)I"⟩
abbrev cX4_collectPrint : ByteArray := prog_6_method_10_code
def yX4_collectPrint : MethodName := ⟨RX4, "collectPrint", "(LDieLineChecker$Design;I)V"⟩
abbrev cX4_beyondSheet : ByteArray := prog_6_method_11_code
def yX4_beyondSheet : MethodName := ⟨RX4, "beyondSheet", "(LDieLineChecker$Design;LDieLineChecker$Panel;II)I"⟩
abbrev cX4_collectIntrusions : ByteArray := prog_6_method_12_code
def yX4_collectIntrusions : MethodName := ⟨RX4, "collectIntrusions", "(LDieLineChecker$Design;III)V"⟩
abbrev cX4_collectBreaks : ByteArray := prog_6_method_13_code
def yX4_collectBreaks : MethodName := ⟨RX4, "collectBreaks", "(LDieLineChecker$Design;)V"⟩
abbrev cX4_anyOpen : ByteArray := prog_6_method_14_code
def yX4_anyOpen : MethodName := ⟨RX4, "anyOpen", "(LDieLineChecker$Design;)Z"⟩
abbrev cX4_isClosed : ByteArray := prog_6_method_15_code
def yX4_isClosed : MethodName := ⟨RX4, "isClosed", "(LDieLineChecker$Design;I)Z"⟩
abbrev cX4_sort : ByteArray := prog_6_method_16_code
def yX4_sort : MethodName := ⟨RX4, "sort", "()V"⟩
abbrev cX4_kindOf : ByteArray := prog_6_method_17_code
def yX4_kindOf : MethodName := ⟨RX4, "kindOf", "(J)I"⟩
abbrev cX4_panelOf : ByteArray := prog_6_method_18_code
def yX4_panelOf : MethodName := ⟨RX4, "panelOf", "(J)I"⟩
abbrev cX4_sideOf : ByteArray := prog_6_method_19_code
def yX4_sideOf : MethodName := ⟨RX4, "sideOf", "(J)I"⟩
abbrev cX4_otherOf : ByteArray := prog_6_method_20_code
def yX4_otherOf : MethodName := ⟨RX4, "otherOf", "(J)I"⟩
abbrev cX4_costOf : ByteArray := prog_6_method_21_code
def yX4_costOf : MethodName := ⟨RX4, "costOf", "(J)I"⟩
abbrev cX4_value : ByteArray := prog_6_method_22_code
def yX4_value : MethodName := ⟨RX4, "value", "(II)I"⟩
abbrev cX4_sumAbout : ByteArray := prog_6_method_23_code
def yX4_sumAbout : MethodName := ⟨RX4, "sumAbout", "(I)J"⟩
def RX5 : String := "DieLineChecker$Folding"
def TX5 : u_T := fun k => match k with
  | 0 => ("DieLineChecker$Folding", "poseCount", "I", false)
  | 1 => ("DieLineChecker$Folding", "poses", "[LDieLineChecker$Pose;", true)
  | 2 => ("DieLineChecker$Folding", "nowhere", "LDieLineChecker$Pose;", true)
  | 3 => ("DieLineChecker$Folding", "order", "[I", true)
  | _ => ("DieLineChecker$Folding", "dead", "[Z", true)
def tyX5 : Nat → FieldType := fun k => match k with
  | 0 => .int
  | 1 => .array (.object "DieLineChecker$Pose")
  | 2 => .object "DieLineChecker$Pose"
  | 3 => .array .int
  | _ => .array .boolean
theorem nmX5 : ∀ a, a < 5 → ∀ b, b < 5 → a ≠ b → (TX5 a).2.1 ≠ (TX5 b).2.1 := by decide +kernel
theorem tyX5_ok : ∀ k, k < 5 → parseFieldDescriptor (TX5 k).2.2.1 = some (tyX5 k) := by decide +kernel
abbrev cX5_init : ByteArray := prog_7_method_1_code
def yX5_init : MethodName := ⟨RX5, "<init>", "()V"⟩
abbrev cX5_poseAt : ByteArray := prog_7_method_2_code
def yX5_poseAt : MethodName := ⟨RX5, "poseAt", "(I)LDieLineChecker$Pose;"⟩
abbrev cX5_orderAt : ByteArray := prog_7_method_3_code
def yX5_orderAt : MethodName := ⟨RX5, "orderAt", "(I)I"⟩
abbrev cX5_fold : ByteArray := prog_7_method_4_code
def yX5_fold : MethodName := ⟨RX5, "fold", "(LDieLineChecker$Design;I)V"⟩
abbrev cX5_crossing : ByteArray := prog_7_method_5_code
def yX5_crossing : MethodName := ⟨RX5, "crossing", "(III)I"⟩
abbrev cX5_crossingPairs : ByteArray := prog_7_method_6_code
def yX5_crossingPairs : MethodName := ⟨RX5, "crossingPairs", "(I)I"⟩
abbrev cX5_doubled : ByteArray := prog_7_method_7_code
def yX5_doubled : MethodName := ⟨RX5, "doubled", "(III)I"⟩
abbrev cX5_covered : ByteArray := prog_7_method_8_code
def yX5_covered : MethodName := ⟨RX5, "covered", "(LDieLineChecker$Design;II)I"⟩
abbrev cX5_enclosed : ByteArray := prog_7_method_9_code
def yX5_enclosed : MethodName := ⟨RX5, "enclosed", "(LDieLineChecker$Design;)J"⟩
abbrev cX5_findOrder : ByteArray := prog_7_method_10_code
def yX5_findOrder : MethodName := ⟨RX5, "findOrder", "(LDieLineChecker$Design;I)I"⟩
abbrev cX5_nextFold : ByteArray := prog_7_method_11_code
def yX5_nextFold : MethodName := ⟨RX5, "nextFold", "(LDieLineChecker$Design;III)I"⟩
def RX6 : String := "DieLineChecker$History"
def TX6 : u_T := fun k => match k with
  | 0 => ("DieLineChecker$History", "kept", "I", false)
  | 1 => ("DieLineChecker$History", "oldest", "I", false)
  | 2 => ("DieLineChecker$History", "designs", "[LDieLineChecker$Design;", true)
  | 3 => ("DieLineChecker$History", "keptLimits", "[[I", true)
  | _ => ("DieLineChecker$History", "keptWeights", "[[I", true)
def tyX6 : Nat → FieldType := fun k => match k with
  | 0 => .int
  | 1 => .int
  | 2 => .array (.object "DieLineChecker$Design")
  | 3 => .array (.array .int)
  | _ => .array (.array .int)
theorem nmX6 : ∀ a, a < 5 → ∀ b, b < 5 → a ≠ b → (TX6 a).2.1 ≠ (TX6 b).2.1 := by decide +kernel
theorem tyX6_ok : ∀ k, k < 5 → parseFieldDescriptor (TX6 k).2.2.1 = some (tyX6 k) := by decide +kernel
abbrev cX6_init : ByteArray := prog_8_method_1_code
def yX6_init : MethodName := ⟨RX6, "<init>", "()V"⟩
abbrev cX6_forgetAll : ByteArray := prog_8_method_2_code
def yX6_forgetAll : MethodName := ⟨RX6, "forgetAll", "()V"⟩
abbrev cX6_remember : ByteArray := prog_8_method_3_code
def yX6_remember : MethodName := ⟨RX6, "remember", "(LDieLineChecker$Design;[I[I)V"⟩
abbrev cX6_recall : ByteArray := prog_8_method_4_code
def yX6_recall : MethodName := ⟨RX6, "recall", "(LDieLineChecker$Design;[I[I)V"⟩
abbrev cX6_copy : ByteArray := prog_8_method_5_code
def yX6_copy : MethodName := ⟨RX6, "copy", "([I[I)V"⟩
def RX7 : String := "DieLineChecker$Panel"
def TX7 : u_T := fun k => match k with
  | 0 => ("DieLineChecker$Panel", "parent", "I", false)
  | 1 => ("DieLineChecker$Panel", "side", "I", false)
  | 2 => ("DieLineChecker$Panel", "offset", "I", false)
  | 3 => ("DieLineChecker$Panel", "length", "I", false)
  | 4 => ("DieLineChecker$Panel", "depth", "I", false)
  | 5 => ("DieLineChecker$Panel", "angle", "I", false)
  | 6 => ("DieLineChecker$Panel", "target", "I", false)
  | 7 => ("DieLineChecker$Panel", "image", "I", false)
  | 8 => ("DieLineChecker$Panel", "orientation", "I", false)
  | 9 => ("DieLineChecker$Panel", "px", "I", false)
  | 10 => ("DieLineChecker$Panel", "py", "I", false)
  | 11 => ("DieLineChecker$Panel", "x", "I", false)
  | 12 => ("DieLineChecker$Panel", "y", "I", false)
  | 13 => ("DieLineChecker$Panel", "width", "I", false)
  | _ => ("DieLineChecker$Panel", "height", "I", false)
def tyX7 : Nat → FieldType := fun k => match k with
  | 0 => .int
  | 1 => .int
  | 2 => .int
  | 3 => .int
  | 4 => .int
  | 5 => .int
  | 6 => .int
  | 7 => .int
  | 8 => .int
  | 9 => .int
  | 10 => .int
  | 11 => .int
  | 12 => .int
  | 13 => .int
  | _ => .int
theorem nmX7 : ∀ a, a < 15 → ∀ b, b < 15 → a ≠ b → (TX7 a).2.1 ≠ (TX7 b).2.1 := by decide +kernel
theorem tyX7_ok : ∀ k, k < 15 → parseFieldDescriptor (TX7 k).2.2.1 = some (tyX7 k) := by decide +kernel
abbrev cX7_init : ByteArray := prog_9_method_1_code
def yX7_init : MethodName := ⟨RX7, "<init>", "()V"⟩
abbrev cX7_become : ByteArray := prog_9_method_2_code
def yX7_become : MethodName := ⟨RX7, "become", "(LDieLineChecker$Panel;)V"⟩
abbrev cX7_makePlain : ByteArray := prog_9_method_3_code
def yX7_makePlain : MethodName := ⟨RX7, "makePlain", "()V"⟩
abbrev cX7_isFlap : ByteArray := prog_9_method_4_code
def yX7_isFlap : MethodName := ⟨RX7, "isFlap", "()Z"⟩
abbrev cX7_nearSide : ByteArray := prog_9_method_5_code
def yX7_nearSide : MethodName := ⟨RX7, "nearSide", "()I"⟩
abbrev cX7_hangsOn : ByteArray := prog_9_method_6_code
def yX7_hangsOn : MethodName := ⟨RX7, "hangsOn", "(II)Z"⟩
abbrev cX7_sideLength : ByteArray := prog_9_method_7_code
def yX7_sideLength : MethodName := ⟨RX7, "sideLength", "(I)I"⟩
abbrev cX7_lowOn : ByteArray := prog_9_method_8_code
def yX7_lowOn : MethodName := ⟨RX7, "lowOn", "(I)I"⟩
abbrev cX7_highOn : ByteArray := prog_9_method_9_code
def yX7_highOn : MethodName := ⟨RX7, "highOn", "(I)I"⟩
abbrev cX7_overlaps : ByteArray := prog_9_method_10_code
def yX7_overlaps : MethodName := ⟨RX7, "overlaps", "(LDieLineChecker$Panel;)Z"⟩
def RX8 : String := "DieLineChecker$Pose"
def TX8 : u_T := fun k => match k with
  | 0 => ("DieLineChecker$Pose", "normal", "I", false)
  | 1 => ("DieLineChecker$Pose", "low", "[I", true)
  | 2 => ("DieLineChecker$Pose", "high", "[I", true)
  | 3 => ("DieLineChecker$Pose", "sideAxis", "[I", true)
  | 4 => ("DieLineChecker$Pose", "sideLow", "[I", true)
  | 5 => ("DieLineChecker$Pose", "sideHigh", "[I", true)
  | 6 => ("DieLineChecker$Pose", "sideNext", "[I", true)
  | 7 => ("DieLineChecker$Pose", "sideLast", "[I", true)
  | 8 => ("DieLineChecker$Pose", "u", "I", false)
  | 9 => ("DieLineChecker$Pose", "v", "I", false)
  | 10 => ("DieLineChecker$Pose", "width", "I", false)
  | 11 => ("DieLineChecker$Pose", "height", "I", false)
  | 12 => ("DieLineChecker$Pose", "spot", "[I", true)
  | _ => ("DieLineChecker$Pose", "sideBegin", "[I", true)
def tyX8 : Nat → FieldType := fun k => match k with
  | 0 => .int
  | 1 => .array .int
  | 2 => .array .int
  | 3 => .array .int
  | 4 => .array .int
  | 5 => .array .int
  | 6 => .array .int
  | 7 => .array .int
  | 8 => .int
  | 9 => .int
  | 10 => .int
  | 11 => .int
  | 12 => .array .int
  | _ => .array .int
theorem nmX8 : ∀ a, a < 14 → ∀ b, b < 14 → a ≠ b → (TX8 a).2.1 ≠ (TX8 b).2.1 := by decide +kernel
theorem tyX8_ok : ∀ k, k < 14 → parseFieldDescriptor (TX8 k).2.2.1 = some (tyX8 k) := by decide +kernel
abbrev cX8_init : ByteArray := prog_10_method_1_code
def yX8_init : MethodName := ⟨RX8, "<init>", "()V"⟩
abbrev cX8_layFlat : ByteArray := prog_10_method_2_code
def yX8_layFlat : MethodName := ⟨RX8, "layFlat", "(LDieLineChecker$Panel;)V"⟩
abbrev cX8_hangOn : ByteArray := prog_10_method_3_code
def yX8_hangOn : MethodName := ⟨RX8, "hangOn", "(LDieLineChecker$Pose;LDieLineChecker$Panel;I)V"⟩
abbrev cX8_outward : ByteArray := prog_10_method_4_code
def yX8_outward : MethodName := ⟨RX8, "outward", "(I)I"⟩
abbrev cX8_part : ByteArray := prog_10_method_5_code
def yX8_part : MethodName := ⟨RX8, "part", "(II)I"⟩
abbrev cX8_cornerAt : ByteArray := prog_10_method_6_code
def yX8_cornerAt : MethodName := ⟨RX8, "cornerAt", "(II)I"⟩
abbrev cX8_measure : ByteArray := prog_10_method_7_code
def yX8_measure : MethodName := ⟨RX8, "measure", "()V"⟩
abbrev cX8_pointX : ByteArray := prog_10_method_8_code
def yX8_pointX : MethodName := ⟨RX8, "pointX", "(II)I"⟩
abbrev cX8_pointY : ByteArray := prog_10_method_9_code
def yX8_pointY : MethodName := ⟨RX8, "pointY", "(II)I"⟩
abbrev cX8_lowOn : ByteArray := prog_10_method_10_code
def yX8_lowOn : MethodName := ⟨RX8, "lowOn", "(I)I"⟩
abbrev cX8_highOn : ByteArray := prog_10_method_11_code
def yX8_highOn : MethodName := ⟨RX8, "highOn", "(I)I"⟩
abbrev cX8_commonOn : ByteArray := prog_10_method_12_code
def yX8_commonOn : MethodName := ⟨RX8, "commonOn", "(ILDieLineChecker$Pose;)I"⟩
abbrev cX8_isCutBy : ByteArray := prog_10_method_13_code
def yX8_isCutBy : MethodName := ⟨RX8, "isCutBy", "(LDieLineChecker$Pose;I)Z"⟩
def RX9 : String := "DieLineChecker$Reader"
def TX9 : u_T := fun k => match k with
  | 0 => ("DieLineChecker$Reader", "draft", "LDieLineChecker$Design;", true)
  | 1 => ("DieLineChecker$Reader", "fault", "I", false)
  | 2 => ("DieLineChecker$Reader", "faultAt", "I", false)
  | 3 => ("DieLineChecker$Reader", "items", "I", false)
  | 4 => ("DieLineChecker$Reader", "item", "I", false)
  | 5 => ("DieLineChecker$Reader", "got", "I", false)
  | 6 => ("DieLineChecker$Reader", "complete", "Z", false)
  | _ => ("DieLineChecker$Reader", "numbers", "[I", true)
def tyX9 : Nat → FieldType := fun k => match k with
  | 0 => .object "DieLineChecker$Design"
  | 1 => .int
  | 2 => .int
  | 3 => .int
  | 4 => .int
  | 5 => .int
  | 6 => .boolean
  | _ => .array .int
theorem nmX9 : ∀ a, a < 8 → ∀ b, b < 8 → a ≠ b → (TX9 a).2.1 ≠ (TX9 b).2.1 := by decide +kernel
theorem tyX9_ok : ∀ k, k < 8 → parseFieldDescriptor (TX9 k).2.2.1 = some (tyX9 k) := by decide +kernel
abbrev cX9_init : ByteArray := prog_11_method_1_code
def yX9_init : MethodName := ⟨RX9, "<init>", "()V"⟩
abbrev cX9_read : ByteArray := prog_11_method_2_code
def yX9_read : MethodName := ⟨RX9, "read", "([II)I"⟩
abbrev cX9_fail : ByteArray := prog_11_method_3_code
def yX9_fail : MethodName := ⟨RX9, "fail", "(II)V"⟩
abbrev cX9_takeByte : ByteArray := prog_11_method_4_code
def yX9_takeByte : MethodName := ⟨RX9, "takeByte", "([III)V"⟩
abbrev cX9_takeNumber : ByteArray := prog_11_method_5_code
def yX9_takeNumber : MethodName := ⟨RX9, "takeNumber", "([III)V"⟩
abbrev cX9_beginItem : ByteArray := prog_11_method_6_code
def yX9_beginItem : MethodName := ⟨RX9, "beginItem", "(II)V"⟩
abbrev cX9_endItem : ByteArray := prog_11_method_7_code
def yX9_endItem : MethodName := ⟨RX9, "endItem", "(I)V"⟩
abbrev cX9_isDigit : ByteArray := prog_11_method_8_code
def yX9_isDigit : MethodName := ⟨RX9, "isDigit", "(I)Z"⟩
abbrev cX9_numbersOf : ByteArray := prog_11_method_9_code
def yX9_numbersOf : MethodName := ⟨RX9, "numbersOf", "(I)I"⟩
abbrev cX9_carryOut : ByteArray := prog_11_method_10_code
def yX9_carryOut : MethodName := ⟨RX9, "carryOut", "()Z"⟩
abbrev cX9_hangPanel : ByteArray := prog_11_method_11_code
def yX9_hangPanel : MethodName := ⟨RX9, "hangPanel", "()Z"⟩
abbrev cX9_glue : ByteArray := prog_11_method_12_code
def yX9_glue : MethodName := ⟨RX9, "glue", "()Z"⟩
abbrev cX9_printImage : ByteArray := prog_11_method_13_code
def yX9_printImage : MethodName := ⟨RX9, "printImage", "()Z"⟩
def RX10 : String := "DieLineChecker$Seams"
def TX10 : u_T := fun k => match k with
  | 0 => ("DieLineChecker$Seams", "size", "I", false)
  | 1 => ("DieLineChecker$Seams", "folding", "LDieLineChecker$Folding;", true)
  | 2 => ("DieLineChecker$Seams", "tolerance", "I", false)
  | 3 => ("DieLineChecker$Seams", "sideP", "[I", true)
  | 4 => ("DieLineChecker$Seams", "sideQ", "[I", true)
  | 5 => ("DieLineChecker$Seams", "lows", "[I", true)
  | 6 => ("DieLineChecker$Seams", "highs", "[I", true)
  | 7 => ("DieLineChecker$Seams", "gaps", "[I", true)
  | _ => ("DieLineChecker$Seams", "cover", "LDieLineChecker$Cover;", true)
def tyX10 : Nat → FieldType := fun k => match k with
  | 0 => .int
  | 1 => .object "DieLineChecker$Folding"
  | 2 => .int
  | 3 => .array .int
  | 4 => .array .int
  | 5 => .array .int
  | 6 => .array .int
  | 7 => .array .int
  | _ => .object "DieLineChecker$Cover"
theorem nmX10 : ∀ a, a < 9 → ∀ b, b < 9 → a ≠ b → (TX10 a).2.1 ≠ (TX10 b).2.1 := by decide +kernel
theorem tyX10_ok : ∀ k, k < 9 → parseFieldDescriptor (TX10 k).2.2.1 = some (tyX10 k) := by decide +kernel
abbrev cX10_init : ByteArray := prog_12_method_1_code
def yX10_init : MethodName := ⟨RX10, "<init>", "()V"⟩
abbrev cX10_find : ByteArray := prog_12_method_2_code
def yX10_find : MethodName := ⟨RX10, "find", "(I)V"⟩
abbrev cX10_joinSide : ByteArray := prog_12_method_3_code
def yX10_joinSide : MethodName := ⟨RX10, "joinSide", "(III)V"⟩
abbrev cX10_has : ByteArray := prog_12_method_4_code
def yX10_has : MethodName := ⟨RX10, "has", "(I)Z"⟩
abbrev cX10_panelP : ByteArray := prog_12_method_5_code
def yX10_panelP : MethodName := ⟨RX10, "panelP", "(I)I"⟩
abbrev cX10_panelQ : ByteArray := prog_12_method_6_code
def yX10_panelQ : MethodName := ⟨RX10, "panelQ", "(I)I"⟩
abbrev cX10_sideOfP : ByteArray := prog_12_method_7_code
def yX10_sideOfP : MethodName := ⟨RX10, "sideOfP", "(I)I"⟩
abbrev cX10_sideOfQ : ByteArray := prog_12_method_8_code
def yX10_sideOfQ : MethodName := ⟨RX10, "sideOfQ", "(I)I"⟩
abbrev cX10_lowOf : ByteArray := prog_12_method_9_code
def yX10_lowOf : MethodName := ⟨RX10, "lowOf", "(I)I"⟩
abbrev cX10_highOf : ByteArray := prog_12_method_10_code
def yX10_highOf : MethodName := ⟨RX10, "highOf", "(I)I"⟩
abbrev cX10_value : ByteArray := prog_12_method_11_code
def yX10_value : MethodName := ⟨RX10, "value", "(LDieLineChecker$Design;II)I"⟩
abbrev cX10_isFold : ByteArray := prog_12_method_12_code
def yX10_isFold : MethodName := ⟨RX10, "isFold", "(LDieLineChecker$Design;I)Z"⟩
abbrev cX10_open : ByteArray := prog_12_method_13_code
def yX10_open : MethodName := ⟨RX10, "open", "(II)I"⟩
def RX11 : String := "DieLineChecker"
def TX11 : u_T := fun k => match k with
  | 0 => ("DieLineChecker", "design", "LDieLineChecker$Design;", true)
  | 1 => ("DieLineChecker", "trial", "LDieLineChecker$Design;", true)
  | 2 => ("DieLineChecker", "slots", "[LDieLineChecker$Design;", true)
  | 3 => ("DieLineChecker", "slotUsed", "[Z", true)
  | 4 => ("DieLineChecker", "history", "LDieLineChecker$History;", true)
  | 5 => ("DieLineChecker", "text", "[I", true)
  | 6 => ("DieLineChecker", "reader", "LDieLineChecker$Reader;", true)
  | 7 => ("DieLineChecker", "blank", "LDieLineChecker$Blank;", true)
  | 8 => ("DieLineChecker", "findings", "LDieLineChecker$Findings;", true)
  | 9 => ("DieLineChecker", "artwork", "LDieLineChecker$Artwork;", true)
  | 10 => ("DieLineChecker", "seams", "LDieLineChecker$Seams;", true)
  | 11 => ("DieLineChecker", "folding", "LDieLineChecker$Folding;", true)
  | 12 => ("DieLineChecker", "limits", "[I", true)
  | 13 => ("DieLineChecker", "weights", "[I", true)
  | 14 => ("DieLineChecker", "textLength", "I", false)
  | _ => ("DieLineChecker", "latestFault", "I", false)
def tyX11 : Nat → FieldType := fun k => match k with
  | 0 => .object "DieLineChecker$Design"
  | 1 => .object "DieLineChecker$Design"
  | 2 => .array (.object "DieLineChecker$Design")
  | 3 => .array .boolean
  | 4 => .object "DieLineChecker$History"
  | 5 => .array .int
  | 6 => .object "DieLineChecker$Reader"
  | 7 => .object "DieLineChecker$Blank"
  | 8 => .object "DieLineChecker$Findings"
  | 9 => .object "DieLineChecker$Artwork"
  | 10 => .object "DieLineChecker$Seams"
  | 11 => .object "DieLineChecker$Folding"
  | 12 => .array .int
  | 13 => .array .int
  | 14 => .int
  | _ => .int
theorem nmX11 : ∀ a, a < 16 → ∀ b, b < 16 → a ≠ b → (TX11 a).2.1 ≠ (TX11 b).2.1 := by decide +kernel
theorem tyX11_ok : ∀ k, k < 16 → parseFieldDescriptor (TX11 k).2.2.1 = some (tyX11 k) := by decide +kernel
abbrev cX11_init : ByteArray := prog_1_method_1_code
def yX11_init : MethodName := ⟨RX11, "<init>", "()V"⟩
abbrev cX11_type : ByteArray := prog_1_method_2_code
def yX11_type : MethodName := ⟨RX11, "type", "(I)I"⟩
abbrev cX11_clearText : ByteArray := prog_1_method_3_code
def yX11_clearText : MethodName := ⟨RX11, "clearText", "()I"⟩
abbrev cX11_load : ByteArray := prog_1_method_4_code
def yX11_load : MethodName := ⟨RX11, "load", "()I"⟩
abbrev cX11_faultKind : ByteArray := prog_1_method_5_code
def yX11_faultKind : MethodName := ⟨RX11, "faultKind", "()I"⟩
abbrev cX11_setSheet : ByteArray := prog_1_method_6_code
def yX11_setSheet : MethodName := ⟨RX11, "setSheet", "(II)I"⟩
abbrev cX11_setBase : ByteArray := prog_1_method_7_code
def yX11_setBase : MethodName := ⟨RX11, "setBase", "(IIII)I"⟩
abbrev cX11_addPanel : ByteArray := prog_1_method_8_code
def yX11_addPanel : MethodName := ⟨RX11, "addPanel", "(IIIIII)I"⟩
abbrev cX11_removeLast : ByteArray := prog_1_method_9_code
def yX11_removeLast : MethodName := ⟨RX11, "removeLast", "()I"⟩
abbrev cX11_setAngle : ByteArray := prog_1_method_10_code
def yX11_setAngle : MethodName := ⟨RX11, "setAngle", "(II)I"⟩
abbrev cX11_setSize : ByteArray := prog_1_method_11_code
def yX11_setSize : MethodName := ⟨RX11, "setSize", "(III)I"⟩
abbrev cX11_setFlap : ByteArray := prog_1_method_12_code
def yX11_setFlap : MethodName := ⟨RX11, "setFlap", "(II)I"⟩
abbrev cX11_defineImage : ByteArray := prog_1_method_13_code
def yX11_defineImage : MethodName := ⟨RX11, "defineImage", "(III)I"⟩
abbrev cX11_place : ByteArray := prog_1_method_14_code
def yX11_place : MethodName := ⟨RX11, "place", "(IIIII)I"⟩
abbrev cX11_clearImage : ByteArray := prog_1_method_15_code
def yX11_clearImage : MethodName := ⟨RX11, "clearImage", "(I)I"⟩
abbrev cX11_continueImage : ByteArray := prog_1_method_16_code
def yX11_continueImage : MethodName := ⟨RX11, "continueImage", "(IZ)I"⟩
abbrev cX11_spreadImage : ByteArray := prog_1_method_17_code
def yX11_spreadImage : MethodName := ⟨RX11, "spreadImage", "(I)I"⟩
abbrev cX11_setLimit : ByteArray := prog_1_method_18_code
def yX11_setLimit : MethodName := ⟨RX11, "setLimit", "(II)I"⟩
abbrev cX11_setWeight : ByteArray := prog_1_method_19_code
def yX11_setWeight : MethodName := ⟨RX11, "setWeight", "(II)I"⟩
abbrev cX11_undo : ByteArray := prog_1_method_20_code
def yX11_undo : MethodName := ⟨RX11, "undo", "()I"⟩
abbrev cX11_save : ByteArray := prog_1_method_21_code
def yX11_save : MethodName := ⟨RX11, "save", "(I)I"⟩
abbrev cX11_restore : ByteArray := prog_1_method_22_code
def yX11_restore : MethodName := ⟨RX11, "restore", "(I)I"⟩
abbrev cX11_flat : ByteArray := prog_1_method_23_code
def yX11_flat : MethodName := ⟨RX11, "flat", "(II)I"⟩
abbrev cX11_cutLength : ByteArray := prog_1_method_24_code
def yX11_cutLength : MethodName := ⟨RX11, "cutLength", "()I"⟩
abbrev cX11_creaseLength : ByteArray := prog_1_method_25_code
def yX11_creaseLength : MethodName := ⟨RX11, "creaseLength", "()I"⟩
abbrev cX11_pitch : ByteArray := prog_1_method_26_code
def yX11_pitch : MethodName := ⟨RX11, "pitch", "(IIZ)I"⟩
abbrev cX11_rowCount : ByteArray := prog_1_method_27_code
def yX11_rowCount : MethodName := ⟨RX11, "rowCount", "(II)I"⟩
abbrev cX11_corner : ByteArray := prog_1_method_28_code
def yX11_corner : MethodName := ⟨RX11, "corner", "(III)I"⟩
abbrev cX11_facing : ByteArray := prog_1_method_29_code
def yX11_facing : MethodName := ⟨RX11, "facing", "(I)I"⟩
abbrev cX11_openLength : ByteArray := prog_1_method_30_code
def yX11_openLength : MethodName := ⟨RX11, "openLength", "(II)I"⟩
abbrev cX11_seamCount : ByteArray := prog_1_method_31_code
def yX11_seamCount : MethodName := ⟨RX11, "seamCount", "()I"⟩
abbrev cX11_seam : ByteArray := prog_1_method_32_code
def yX11_seam : MethodName := ⟨RX11, "seam", "(II)I"⟩
abbrev cX11_coverage : ByteArray := prog_1_method_33_code
def yX11_coverage : MethodName := ⟨RX11, "coverage", "(I)I"⟩
abbrev cX11_volume : ByteArray := prog_1_method_34_code
def yX11_volume : MethodName := ⟨RX11, "volume", "()J"⟩
abbrev cX11_leastTolerance : ByteArray := prog_1_method_35_code
def yX11_leastTolerance : MethodName := ⟨RX11, "leastTolerance", "()I"⟩
abbrev cX11_crossings : ByteArray := prog_1_method_36_code
def yX11_crossings : MethodName := ⟨RX11, "crossings", "(I)I"⟩
abbrev cX11_foldStep : ByteArray := prog_1_method_37_code
def yX11_foldStep : MethodName := ⟨RX11, "foldStep", "(I)I"⟩
abbrev cX11_imageAt : ByteArray := prog_1_method_38_code
def yX11_imageAt : MethodName := ⟨RX11, "imageAt", "(IIII)I"⟩
abbrev cX11_reach : ByteArray := prog_1_method_39_code
def yX11_reach : MethodName := ⟨RX11, "reach", "(II)I"⟩
abbrev cX11_findingCount : ByteArray := prog_1_method_40_code
def yX11_findingCount : MethodName := ⟨RX11, "findingCount", "()I"⟩
abbrev cX11_finding : ByteArray := prog_1_method_41_code
def yX11_finding : MethodName := ⟨RX11, "finding", "(II)I"⟩
abbrev cX11_totalCost : ByteArray := prog_1_method_42_code
def yX11_totalCost : MethodName := ⟨RX11, "totalCost", "()J"⟩
abbrev cX11_panelCost : ByteArray := prog_1_method_43_code
def yX11_panelCost : MethodName := ⟨RX11, "panelCost", "(I)J"⟩
abbrev cX11_bestDepth : ByteArray := prog_1_method_44_code
def yX11_bestDepth : MethodName := ⟨RX11, "bestDepth", "(I)I"⟩
abbrev cX11_bestAngle : ByteArray := prog_1_method_45_code
def yX11_bestAngle : MethodName := ⟨RX11, "bestAngle", "(I)I"⟩
abbrev cX11_count : ByteArray := prog_1_method_46_code
def yX11_count : MethodName := ⟨RX11, "count", "(I)I"⟩
abbrev cX11_findSeams : ByteArray := prog_1_method_47_code
def yX11_findSeams : MethodName := ⟨RX11, "findSeams", "()V"⟩
abbrev cX11_pitchFault : ByteArray := prog_1_method_48_code
def yX11_pitchFault : MethodName := ⟨RX11, "pitchFault", "(II)I"⟩
abbrev cX11_isAngle : ByteArray := prog_1_method_49_code
def yX11_isAngle : MethodName := ⟨RX11, "isAngle", "(I)Z"⟩
abbrev cX11_isPosition : ByteArray := prog_1_method_50_code
def yX11_isPosition : MethodName := ⟨RX11, "isPosition", "(I)Z"⟩
abbrev cX11_isLength : ByteArray := prog_1_method_51_code
def yX11_isLength : MethodName := ⟨RX11, "isLength", "(I)Z"⟩
abbrev cX11_isOffset : ByteArray := prog_1_method_52_code
def yX11_isOffset : MethodName := ⟨RX11, "isOffset", "(I)Z"⟩
abbrev cX11_common : ByteArray := prog_1_method_53_code
def yX11_common : MethodName := ⟨RX11, "common", "(IIII)I"⟩
def RX12 : String := "DieLineCheckerModel"
def TX12 : u_T := fun k => match k with
  | 0 => ("DieLineCheckerModel", "st", "[I", true)
  | 1 => ("DieLineCheckerModel", "before", "[I", true)
  | 2 => ("DieLineCheckerModel", "failed", "Z", false)
  | 3 => ("DieLineCheckerModel", "backs", "[I", true)
  | 4 => ("DieLineCheckerModel", "backMany", "I", false)
  | 5 => ("DieLineCheckerModel", "kept", "[I", true)
  | 6 => ("DieLineCheckerModel", "isKept", "[Z", true)
  | 7 => ("DieLineCheckerModel", "fx", "[I", true)
  | 8 => ("DieLineCheckerModel", "fy", "[I", true)
  | 9 => ("DieLineCheckerModel", "fw", "[I", true)
  | 10 => ("DieLineCheckerModel", "fh", "[I", true)
  | 11 => ("DieLineCheckerModel", "text", "[I", true)
  | 12 => ("DieLineCheckerModel", "letters", "I", false)
  | 13 => ("DieLineCheckerModel", "fault", "I", false)
  | 14 => ("DieLineCheckerModel", "at", "I", false)
  | 15 => ("DieLineCheckerModel", "numbers", "[I", true)
  | 16 => ("DieLineCheckerModel", "whole", "[I", true)
  | 17 => ("DieLineCheckerModel", "org", "[I", true)
  | 18 => ("DieLineCheckerModel", "uu", "[I", true)
  | 19 => ("DieLineCheckerModel", "vv", "[I", true)
  | 20 => ("DieLineCheckerModel", "nn", "[I", true)
  | 21 => ("DieLineCheckerModel", "lo", "[I", true)
  | 22 => ("DieLineCheckerModel", "hi", "[I", true)
  | 23 => ("DieLineCheckerModel", "upright", "[I", true)
  | 24 => ("DieLineCheckerModel", "seams", "[I", true)
  | 25 => ("DieLineCheckerModel", "seamMany", "I", false)
  | 26 => ("DieLineCheckerModel", "found", "[I", true)
  | 27 => ("DieLineCheckerModel", "foundMany", "I", false)
  | 28 => ("DieLineCheckerModel", "strip", "[I", true)
  | _ => ("DieLineCheckerModel", "leads", "[Z", true)
def tyX12 : Nat → FieldType := fun k => match k with
  | 0 => .array .int
  | 1 => .array .int
  | 2 => .boolean
  | 3 => .array .int
  | 4 => .int
  | 5 => .array .int
  | 6 => .array .boolean
  | 7 => .array .int
  | 8 => .array .int
  | 9 => .array .int
  | 10 => .array .int
  | 11 => .array .int
  | 12 => .int
  | 13 => .int
  | 14 => .int
  | 15 => .array .int
  | 16 => .array .int
  | 17 => .array .int
  | 18 => .array .int
  | 19 => .array .int
  | 20 => .array .int
  | 21 => .array .int
  | 22 => .array .int
  | 23 => .array .int
  | 24 => .array .int
  | 25 => .int
  | 26 => .array .int
  | 27 => .int
  | 28 => .array .int
  | _ => .array .boolean
theorem nmX12 : ∀ a, a < 30 → ∀ b, b < 30 → a ≠ b → (TX12 a).2.1 ≠ (TX12 b).2.1 := by decide +kernel
theorem tyX12_ok : ∀ k, k < 30 → parseFieldDescriptor (TX12 k).2.2.1 = some (tyX12 k) := by decide +kernel
abbrev cX12_init : ByteArray := prog_14_method_1_code
def yX12_init : MethodName := ⟨RX12, "<init>", "()V"⟩
abbrev cX12_in : ByteArray := prog_14_method_3_code
def yX12_in : MethodName := ⟨RX12, "in", "(III)Z"⟩
abbrev cX12_least : ByteArray := prog_14_method_4_code
def yX12_least : MethodName := ⟨RX12, "least", "(II)I"⟩
abbrev cX12_most : ByteArray := prog_14_method_5_code
def yX12_most : MethodName := ⟨RX12, "most", "(II)I"⟩
abbrev cX12_amount : ByteArray := prog_14_method_6_code
def yX12_amount : MethodName := ⟨RX12, "amount", "(I)I"⟩
abbrev cX12_bits : ByteArray := prog_14_method_7_code
def yX12_bits : MethodName := ⟨RX12, "bits", "(I)I"⟩
abbrev cX12_clearDesign : ByteArray := prog_14_method_8_code
def yX12_clearDesign : MethodName := ⟨RX12, "clearDesign", "()V"⟩
abbrev cX12_many : ByteArray := prog_14_method_9_code
def yX12_many : MethodName := ⟨RX12, "many", "()I"⟩
abbrev cX12_of : ByteArray := prog_14_method_10_code
def yX12_of : MethodName := ⟨RX12, "of", "(II)I"⟩
abbrev cX12_put : ByteArray := prog_14_method_11_code
def yX12_put : MethodName := ⟨RX12, "put", "(III)V"⟩
abbrev cX12_isPanel : ByteArray := prog_14_method_12_code
def yX12_isPanel : MethodName := ⟨RX12, "isPanel", "(I)Z"⟩
abbrev cX12_isHung : ByteArray := prog_14_method_13_code
def yX12_isHung : MethodName := ⟨RX12, "isHung", "(I)Z"⟩
abbrev cX12_limitOf : ByteArray := prog_14_method_14_code
def yX12_limitOf : MethodName := ⟨RX12, "limitOf", "(I)I"⟩
abbrev cX12_isFlap : ByteArray := prog_14_method_15_code
def yX12_isFlap : MethodName := ⟨RX12, "isFlap", "(I)Z"⟩
abbrev cX12_begins : ByteArray := prog_14_method_16_code
def yX12_begins : MethodName := ⟨RX12, "begins", "()V"⟩
abbrev cX12_refuse : ByteArray := prog_14_method_17_code
def yX12_refuse : MethodName := ⟨RX12, "refuse", "(I)I"⟩
abbrev cX12_ends : ByteArray := prog_14_method_18_code
def yX12_ends : MethodName := ⟨RX12, "ends", "(I)I"⟩
abbrev cX12_undo : ByteArray := prog_14_method_19_code
def yX12_undo : MethodName := ⟨RX12, "undo", "()I"⟩
abbrev cX12_save : ByteArray := prog_14_method_20_code
def yX12_save : MethodName := ⟨RX12, "save", "(I)I"⟩
abbrev cX12_restore : ByteArray := prog_14_method_21_code
def yX12_restore : MethodName := ⟨RX12, "restore", "(I)I"⟩
abbrev cX12_layFlat : ByteArray := prog_14_method_22_code
def yX12_layFlat : MethodName := ⟨RX12, "layFlat", "()V"⟩
abbrev cX12_sideLength : ByteArray := prog_14_method_23_code
def yX12_sideLength : MethodName := ⟨RX12, "sideLength", "(II)I"⟩
abbrev cX12_common : ByteArray := prog_14_method_24_code
def yX12_common : MethodName := ⟨RX12, "common", "(IIII)I"⟩
abbrev cX12_overlap : ByteArray := prog_14_method_25_code
def yX12_overlap : MethodName := ⟨RX12, "overlap", "(II)Z"⟩
abbrev cX12_isValid : ByteArray := prog_14_method_26_code
def yX12_isValid : MethodName := ⟨RX12, "isValid", "()Z"⟩
abbrev cX12_doSheet : ByteArray := prog_14_method_27_code
def yX12_doSheet : MethodName := ⟨RX12, "doSheet", "(II)I"⟩
abbrev cX12_newPanel : ByteArray := prog_14_method_28_code
def yX12_newPanel : MethodName := ⟨RX12, "newPanel", "(I)V"⟩
abbrev cX12_doBase : ByteArray := prog_14_method_29_code
def yX12_doBase : MethodName := ⟨RX12, "doBase", "(IIII)I"⟩
abbrev cX12_doPanel : ByteArray := prog_14_method_30_code
def yX12_doPanel : MethodName := ⟨RX12, "doPanel", "(IIIIII)I"⟩
abbrev cX12_doFlap : ByteArray := prog_14_method_31_code
def yX12_doFlap : MethodName := ⟨RX12, "doFlap", "(II)I"⟩
abbrev cX12_doImage : ByteArray := prog_14_method_32_code
def yX12_doImage : MethodName := ⟨RX12, "doImage", "(III)I"⟩
abbrev cX12_doPlace : ByteArray := prog_14_method_33_code
def yX12_doPlace : MethodName := ⟨RX12, "doPlace", "(IIIII)I"⟩
abbrev cX12_setSheet : ByteArray := prog_14_method_34_code
def yX12_setSheet : MethodName := ⟨RX12, "setSheet", "(II)I"⟩
abbrev cX12_setBase : ByteArray := prog_14_method_35_code
def yX12_setBase : MethodName := ⟨RX12, "setBase", "(IIII)I"⟩
abbrev cX12_addPanel : ByteArray := prog_14_method_36_code
def yX12_addPanel : MethodName := ⟨RX12, "addPanel", "(IIIIII)I"⟩
abbrev cX12_removeLast : ByteArray := prog_14_method_37_code
def yX12_removeLast : MethodName := ⟨RX12, "removeLast", "()I"⟩
abbrev cX12_setAngle : ByteArray := prog_14_method_38_code
def yX12_setAngle : MethodName := ⟨RX12, "setAngle", "(II)I"⟩
abbrev cX12_setSize : ByteArray := prog_14_method_39_code
def yX12_setSize : MethodName := ⟨RX12, "setSize", "(III)I"⟩
abbrev cX12_setFlap : ByteArray := prog_14_method_40_code
def yX12_setFlap : MethodName := ⟨RX12, "setFlap", "(II)I"⟩
abbrev cX12_defineImage : ByteArray := prog_14_method_41_code
def yX12_defineImage : MethodName := ⟨RX12, "defineImage", "(III)I"⟩
abbrev cX12_place : ByteArray := prog_14_method_42_code
def yX12_place : MethodName := ⟨RX12, "place", "(IIIII)I"⟩
abbrev cX12_clearImage : ByteArray := prog_14_method_43_code
def yX12_clearImage : MethodName := ⟨RX12, "clearImage", "(I)I"⟩
abbrev cX12_setLimit : ByteArray := prog_14_method_44_code
def yX12_setLimit : MethodName := ⟨RX12, "setLimit", "(II)I"⟩
abbrev cX12_setWeight : ByteArray := prog_14_method_45_code
def yX12_setWeight : MethodName := ⟨RX12, "setWeight", "(II)I"⟩
abbrev cX12_type : ByteArray := prog_14_method_46_code
def yX12_type : MethodName := ⟨RX12, "type", "(I)I"⟩
abbrev cX12_clearText : ByteArray := prog_14_method_47_code
def yX12_clearText : MethodName := ⟨RX12, "clearText", "()I"⟩
abbrev cX12_here : ByteArray := prog_14_method_48_code
def yX12_here : MethodName := ⟨RX12, "here", "(I)I"⟩
abbrev cX12_isDigit : ByteArray := prog_14_method_49_code
def yX12_isDigit : MethodName := ⟨RX12, "isDigit", "(I)Z"⟩
abbrev cX12_numbersOf : ByteArray := prog_14_method_50_code
def yX12_numbersOf : MethodName := ⟨RX12, "numbersOf", "(I)I"⟩
abbrev cX12_numberEnd : ByteArray := prog_14_method_51_code
def yX12_numberEnd : MethodName := ⟨RX12, "numberEnd", "(I)I"⟩
abbrev cX12_numberAt : ByteArray := prog_14_method_52_code
def yX12_numberAt : MethodName := ⟨RX12, "numberAt", "(II)I"⟩
abbrev cX12_faulty : ByteArray := prog_14_method_53_code
def yX12_faulty : MethodName := ⟨RX12, "faulty", "(I)V"⟩
abbrev cX12_skips : ByteArray := prog_14_method_54_code
def yX12_skips : MethodName := ⟨RX12, "skips", "()V"⟩
abbrev cX12_readItem : ByteArray := prog_14_method_55_code
def yX12_readItem : MethodName := ⟨RX12, "readItem", "()V"⟩
abbrev cX12_carryOut : ByteArray := prog_14_method_56_code
def yX12_carryOut : MethodName := ⟨RX12, "carryOut", "(I)V"⟩
abbrev cX12_load : ByteArray := prog_14_method_57_code
def yX12_load : MethodName := ⟨RX12, "load", "()I"⟩
abbrev cX12_faultKind : ByteArray := prog_14_method_58_code
def yX12_faultKind : MethodName := ⟨RX12, "faultKind", "()I"⟩
abbrev cX12_layBase : ByteArray := prog_14_method_59_code
def yX12_layBase : MethodName := ⟨RX12, "layBase", "()V"⟩
abbrev cX12_layHung : ByteArray := prog_14_method_60_code
def yX12_layHung : MethodName := ⟨RX12, "layHung", "(II)V"⟩
abbrev cX12_fold : ByteArray := prog_14_method_61_code
def yX12_fold : MethodName := ⟨RX12, "fold", "(I)V"⟩
abbrev cX12_cornerOf : ByteArray := prog_14_method_62_code
def yX12_cornerOf : MethodName := ⟨RX12, "cornerOf", "(III)I"⟩
abbrev cX12_shared : ByteArray := prog_14_method_63_code
def yX12_shared : MethodName := ⟨RX12, "shared", "(III)I"⟩
abbrev cX12_cuts : ByteArray := prog_14_method_64_code
def yX12_cuts : MethodName := ⟨RX12, "cuts", "(III)Z"⟩
abbrev cX12_crossing : ByteArray := prog_14_method_65_code
def yX12_crossing : MethodName := ⟨RX12, "crossing", "(III)I"⟩
abbrev cX12_doubled : ByteArray := prog_14_method_66_code
def yX12_doubled : MethodName := ⟨RX12, "doubled", "(III)I"⟩
abbrev cX12_firstCorner : ByteArray := prog_14_method_67_code
def yX12_firstCorner : MethodName := ⟨RX12, "firstCorner", "(I)I"⟩
abbrev cX12_lastCorner : ByteArray := prog_14_method_68_code
def yX12_lastCorner : MethodName := ⟨RX12, "lastCorner", "(I)I"⟩
abbrev cX12_sideAxis : ByteArray := prog_14_method_69_code
def yX12_sideAxis : MethodName := ⟨RX12, "sideAxis", "(II)I"⟩
abbrev cX12_sideFrom : ByteArray := prog_14_method_70_code
def yX12_sideFrom : MethodName := ⟨RX12, "sideFrom", "(III)I"⟩
abbrev cX12_sideTo : ByteArray := prog_14_method_71_code
def yX12_sideTo : MethodName := ⟨RX12, "sideTo", "(III)I"⟩
abbrev cX12_meet : ByteArray := prog_14_method_72_code
def yX12_meet : MethodName := ⟨RX12, "meet", "(IIIII)V"⟩
abbrev cX12_findSeams : ByteArray := prog_14_method_73_code
def yX12_findSeams : MethodName := ⟨RX12, "findSeams", "(I)V"⟩
abbrev cX12_openOf : ByteArray := prog_14_method_74_code
def yX12_openOf : MethodName := ⟨RX12, "openOf", "(III)I"⟩
abbrev cX12_covered : ByteArray := prog_14_method_75_code
def yX12_covered : MethodName := ⟨RX12, "covered", "(II)I"⟩
abbrev cX12_imageSize : ByteArray := prog_14_method_76_code
def yX12_imageSize : MethodName := ⟨RX12, "imageSize", "(IZ)I"⟩
abbrev cX12_turnedSize : ByteArray := prog_14_method_77_code
def yX12_turnedSize : MethodName := ⟨RX12, "turnedSize", "(IZ)I"⟩
abbrev cX12_shows : ByteArray := prog_14_method_78_code
def yX12_shows : MethodName := ⟨RX12, "shows", "(I)Z"⟩
abbrev cX12_reachOf : ByteArray := prog_14_method_79_code
def yX12_reachOf : MethodName := ⟨RX12, "reachOf", "(II)I"⟩
abbrev cX12_inImage : ByteArray := prog_14_method_80_code
def yX12_inImage : MethodName := ⟨RX12, "inImage", "(IIIIIZ)I"⟩
abbrev cX12_imageOn : ByteArray := prog_14_method_81_code
def yX12_imageOn : MethodName := ⟨RX12, "imageOn", "(IIIZ)I"⟩
abbrev cX12_along : ByteArray := prog_14_method_82_code
def yX12_along : MethodName := ⟨RX12, "along", "(IIIIZ)I"⟩
abbrev cX12_outward : ByteArray := prog_14_method_83_code
def yX12_outward : MethodName := ⟨RX12, "outward", "(IZ)I"⟩
abbrev cX12_step : ByteArray := prog_14_method_84_code
def yX12_step : MethodName := ⟨RX12, "step", "(IIIZ)I"⟩
abbrev cX12_atEnd : ByteArray := prog_14_method_85_code
def yX12_atEnd : MethodName := ⟨RX12, "atEnd", "(IIIIZ)I"⟩
abbrev cX12_mismatch : ByteArray := prog_14_method_86_code
def yX12_mismatch : MethodName := ⟨RX12, "mismatch", "(I)I"⟩
abbrev cX12_onTurned : ByteArray := prog_14_method_87_code
def yX12_onTurned : MethodName := ⟨RX12, "onTurned", "(IIIIIZ)I"⟩
abbrev cX12_continueOver : ByteArray := prog_14_method_88_code
def yX12_continueOver : MethodName := ⟨RX12, "continueOver", "(IZ)I"⟩
abbrev cX12_continueImage : ByteArray := prog_14_method_89_code
def yX12_continueImage : MethodName := ⟨RX12, "continueImage", "(IZ)I"⟩
abbrev cX12_spreads : ByteArray := prog_14_method_90_code
def yX12_spreads : MethodName := ⟨RX12, "spreads", "(I)Z"⟩
abbrev cX12_spreadImage : ByteArray := prog_14_method_91_code
def yX12_spreadImage : MethodName := ⟨RX12, "spreadImage", "(I)I"⟩
abbrev cX12_finds : ByteArray := prog_14_method_92_code
def yX12_finds : MethodName := ⟨RX12, "finds", "(IIIII)V"⟩
abbrev cX12_isFolded : ByteArray := prog_14_method_93_code
def yX12_isFolded : MethodName := ⟨RX12, "isFolded", "(II)Z"⟩
abbrev cX12_stripOf : ByteArray := prog_14_method_94_code
def yX12_stripOf : MethodName := ⟨RX12, "stripOf", "(II)I"⟩
abbrev cX12_findIntrusions : ByteArray := prog_14_method_95_code
def yX12_findIntrusions : MethodName := ⟨RX12, "findIntrusions", "(II)V"⟩
abbrev cX12_findInk : ByteArray := prog_14_method_96_code
def yX12_findInk : MethodName := ⟨RX12, "findInk", "(I)V"⟩
abbrev cX12_findSides : ByteArray := prog_14_method_97_code
def yX12_findSides : MethodName := ⟨RX12, "findSides", "(II)V"⟩
abbrev cX12_findAll : ByteArray := prog_14_method_98_code
def yX12_findAll : MethodName := ⟨RX12, "findAll", "()V"⟩
abbrev cX12_isAhead : ByteArray := prog_14_method_99_code
def yX12_isAhead : MethodName := ⟨RX12, "isAhead", "(II)Z"⟩
abbrev cX12_placed : ByteArray := prog_14_method_100_code
def yX12_placed : MethodName := ⟨RX12, "placed", "(I)I"⟩
abbrev cX12_costs : ByteArray := prog_14_method_101_code
def yX12_costs : MethodName := ⟨RX12, "costs", "(I)J"⟩
abbrev cX12_findingCount : ByteArray := prog_14_method_102_code
def yX12_findingCount : MethodName := ⟨RX12, "findingCount", "()I"⟩
abbrev cX12_finding : ByteArray := prog_14_method_103_code
def yX12_finding : MethodName := ⟨RX12, "finding", "(II)I"⟩
abbrev cX12_totalCost : ByteArray := prog_14_method_104_code
def yX12_totalCost : MethodName := ⟨RX12, "totalCost", "()J"⟩
abbrev cX12_panelCost : ByteArray := prog_14_method_105_code
def yX12_panelCost : MethodName := ⟨RX12, "panelCost", "(I)J"⟩
abbrev cX12_bestDepth : ByteArray := prog_14_method_106_code
def yX12_bestDepth : MethodName := ⟨RX12, "bestDepth", "(I)I"⟩
abbrev cX12_bestAngle : ByteArray := prog_14_method_107_code
def yX12_bestAngle : MethodName := ⟨RX12, "bestAngle", "(I)I"⟩
abbrev cX12_flat : ByteArray := prog_14_method_108_code
def yX12_flat : MethodName := ⟨RX12, "flat", "(II)I"⟩
abbrev cX12_sideX : ByteArray := prog_14_method_109_code
def yX12_sideX : MethodName := ⟨RX12, "sideX", "(II)I"⟩
abbrev cX12_sideY : ByteArray := prog_14_method_110_code
def yX12_sideY : MethodName := ⟨RX12, "sideY", "(II)I"⟩
abbrev cX12_isOn : ByteArray := prog_14_method_111_code
def yX12_isOn : MethodName := ⟨RX12, "isOn", "(IIZII)Z"⟩
abbrev cX12_isFold : ByteArray := prog_14_method_112_code
def yX12_isFold : MethodName := ⟨RX12, "isFold", "(ZII)Z"⟩
abbrev cX12_isCounted : ByteArray := prog_14_method_113_code
def yX12_isCounted : MethodName := ⟨RX12, "isCounted", "(IIZII)Z"⟩
abbrev cX12_cutLength : ByteArray := prog_14_method_114_code
def yX12_cutLength : MethodName := ⟨RX12, "cutLength", "()I"⟩
abbrev cX12_creaseLength : ByteArray := prog_14_method_115_code
def yX12_creaseLength : MethodName := ⟨RX12, "creaseLength", "()I"⟩
abbrev cX12_apart : ByteArray := prog_14_method_116_code
def yX12_apart : MethodName := ⟨RX12, "apart", "(IIII)I"⟩
abbrev cX12_isNear : ByteArray := prog_14_method_117_code
def yX12_isNear : MethodName := ⟨RX12, "isNear", "(IIIII)Z"⟩
abbrev cX12_leastOf : ByteArray := prog_14_method_118_code
def yX12_leastOf : MethodName := ⟨RX12, "leastOf", "(I)I"⟩
abbrev cX12_greatestOf : ByteArray := prog_14_method_119_code
def yX12_greatestOf : MethodName := ⟨RX12, "greatestOf", "(I)I"⟩
abbrev cX12_isFree : ByteArray := prog_14_method_120_code
def yX12_isFree : MethodName := ⟨RX12, "isFree", "(IIZI)Z"⟩
abbrev cX12_pitchOf : ByteArray := prog_14_method_121_code
def yX12_pitchOf : MethodName := ⟨RX12, "pitchOf", "(IIZ)I"⟩
abbrev cX12_pitch : ByteArray := prog_14_method_122_code
def yX12_pitch : MethodName := ⟨RX12, "pitch", "(IIZ)I"⟩
abbrev cX12_rowCount : ByteArray := prog_14_method_123_code
def yX12_rowCount : MethodName := ⟨RX12, "rowCount", "(II)I"⟩
abbrev cX12_corner : ByteArray := prog_14_method_124_code
def yX12_corner : MethodName := ⟨RX12, "corner", "(III)I"⟩
abbrev cX12_facing : ByteArray := prog_14_method_125_code
def yX12_facing : MethodName := ⟨RX12, "facing", "(I)I"⟩
abbrev cX12_openLength : ByteArray := prog_14_method_126_code
def yX12_openLength : MethodName := ⟨RX12, "openLength", "(II)I"⟩
abbrev cX12_seamCount : ByteArray := prog_14_method_127_code
def yX12_seamCount : MethodName := ⟨RX12, "seamCount", "()I"⟩
abbrev cX12_seam : ByteArray := prog_14_method_128_code
def yX12_seam : MethodName := ⟨RX12, "seam", "(II)I"⟩
abbrev cX12_coverage : ByteArray := prog_14_method_129_code
def yX12_coverage : MethodName := ⟨RX12, "coverage", "(I)I"⟩
abbrev cX12_isShut : ByteArray := prog_14_method_130_code
def yX12_isShut : MethodName := ⟨RX12, "isShut", "(I)Z"⟩
abbrev cX12_volume : ByteArray := prog_14_method_131_code
def yX12_volume : MethodName := ⟨RX12, "volume", "()J"⟩
abbrev cX12_leastTolerance : ByteArray := prog_14_method_132_code
def yX12_leastTolerance : MethodName := ⟨RX12, "leastTolerance", "()I"⟩
abbrev cX12_crossingsBy : ByteArray := prog_14_method_133_code
def yX12_crossingsBy : MethodName := ⟨RX12, "crossingsBy", "(I)I"⟩
abbrev cX12_crossings : ByteArray := prog_14_method_134_code
def yX12_crossings : MethodName := ⟨RX12, "crossings", "(I)I"⟩
abbrev cX12_foldStep : ByteArray := prog_14_method_135_code
def yX12_foldStep : MethodName := ⟨RX12, "foldStep", "(I)I"⟩
abbrev cX12_imageAt : ByteArray := prog_14_method_136_code
def yX12_imageAt : MethodName := ⟨RX12, "imageAt", "(IIII)I"⟩
abbrev cX12_reach : ByteArray := prog_14_method_137_code
def yX12_reach : MethodName := ⟨RX12, "reach", "(II)I"⟩
abbrev cX12_turnedPanels : ByteArray := prog_14_method_138_code
def yX12_turnedPanels : MethodName := ⟨RX12, "turnedPanels", "()I"⟩
abbrev cX12_flaps : ByteArray := prog_14_method_139_code
def yX12_flaps : MethodName := ⟨RX12, "flaps", "()I"⟩
abbrev cX12_definedImages : ByteArray := prog_14_method_140_code
def yX12_definedImages : MethodName := ⟨RX12, "definedImages", "()I"⟩
abbrev cX12_count : ByteArray := prog_14_method_141_code
def yX12_count : MethodName := ⟨RX12, "count", "(I)I"⟩
def RJ9 : String := "java/lang/Math"
abbrev cJ9_abs_0f7a4 : ByteArray := prog_15_method_59_code
def yJ9_abs_0f7a4 : MethodName := ⟨RJ9, "abs", "(I)I"⟩
abbrev cJ9_abs_067f4 : ByteArray := prog_15_method_61_code
def yJ9_abs_067f4 : MethodName := ⟨RJ9, "abs", "(J)J"⟩
abbrev cJ9_max_7cf53 : ByteArray := prog_15_method_65_code
def yJ9_max_7cf53 : MethodName := ⟨RJ9, "max", "(II)I"⟩
abbrev cJ9_min_7cf53 : ByteArray := prog_15_method_69_code
def yJ9_min_7cf53 : MethodName := ⟨RJ9, "min", "(II)I"⟩
def RL : String := "DieLineCheckerLaw"
abbrev cL_law : ByteArray := code
def yL_law : MethodName := ⟨RL, "law", "([I)Z"⟩
abbrev vwCl : List vw_C := [(RX0, TX0, 11), (RX1, TX1, 2), (RX2, TX2, 3), (RX3, TX3, 7), (RX4, TX4, 8), (RX5, TX5, 5), (RX6, TX6, 5), (RX7, TX7, 15), (RX8, TX8, 14), (RX9, TX9, 8), (RX10, TX10, 9), (RX11, TX11, 16), (RX12, TX12, 30)]
theorem nm_sub {big : List Cond} (ws : List Cond) (ps : List Nat) (hp : ws = ps.filterMap (fun i => big[i]?)) : ∀ w ∈ ws, w ∈ big := by
  intro w hw
  rw [hp] at hw
  obtain ⟨i, -, hi⟩ := List.mem_filterMap.mp hw
  exact List.mem_of_getElem? hi
theorem inX0 : ∀ w ∈ u_ws RX0 TX0 11, w ∈ lw_tbl := nm_sub _ [517, 519, 521, 523, 525, 527, 529, 531, 533, 535, 537] (by decide +kernel)
theorem inX1 : ∀ w ∈ u_ws RX1 TX1 2, w ∈ lw_tbl := nm_sub _ [366, 368] (by decide +kernel)
theorem inX2 : ∀ w ∈ u_ws RX2 TX2 3, w ∈ lw_tbl := nm_sub _ [357, 359, 361] (by decide +kernel)
theorem inX3 : ∀ w ∈ u_ws RX3 TX3 7, w ∈ lw_tbl := nm_sub _ [263, 265, 267, 269, 271, 273, 275] (by decide +kernel)
theorem inX4 : ∀ w ∈ u_ws RX4 TX4 8, w ∈ lw_tbl := nm_sub _ [555, 557, 559, 561, 563, 565, 567, 569] (by decide +kernel)
theorem inX5 : ∀ w ∈ u_ws RX5 TX5 5, w ∈ lw_tbl := nm_sub _ [458, 460, 462, 464, 466] (by decide +kernel)
theorem inX6 : ∀ w ∈ u_ws RX6 TX6 5, w ∈ lw_tbl := nm_sub _ [295, 297, 299, 301, 303] (by decide +kernel)
theorem inX7 : ∀ w ∈ u_ws RX7 TX7 15, w ∈ lw_tbl := nm_sub _ [216, 218, 220, 222, 224, 226, 228, 230, 232, 234, 236, 238, 240, 242, 244] (by decide +kernel)
theorem inX8 : ∀ w ∈ u_ws RX8 TX8 14, w ∈ lw_tbl := nm_sub _ [423, 425, 427, 429, 431, 433, 435, 437, 439, 441, 443, 445, 447, 449] (by decide +kernel)
theorem inX9 : ∀ w ∈ u_ws RX9 TX9 8, w ∈ lw_tbl := nm_sub _ [325, 327, 329, 331, 333, 335, 337, 339] (by decide +kernel)
theorem inX10 : ∀ w ∈ u_ws RX10 TX10 9, w ∈ lw_tbl := nm_sub _ [485, 487, 489, 491, 493, 495, 497, 499, 501] (by decide +kernel)
theorem inX11 : ∀ w ∈ u_ws RX11 TX11 16, w ∈ lw_tbl := nm_sub _ [589, 591, 593, 595, 597, 599, 601, 603, 605, 607, 609, 611, 613, 615, 617, 619] (by decide +kernel)
theorem inX12 : ∀ w ∈ u_ws RX12 TX12 30, w ∈ lw_tbl := nm_sub _ [1554, 1556, 1558, 1560, 1562, 1564, 1566, 1568, 1570, 1572, 1574, 1576, 1578, 1580, 1582, 1584, 1586, 1588, 1590, 1592, 1594, 1596, 1598, 1600, 1602, 1604, 1606, 1608, 1610, 1612] (by decide +kernel)
end
section
/-! the cells of the run by their numbers: kinds (0..12 the classes of vwCl, 20 int[], 21 boolean[], 22 long[], 23 Panel[], 24 Design[], 25 Pose[], 26 int[][]), lengths, references; by program out of the constructors -/
def kapL : List Nat := [11, 3, 20, 20, 23, 7, 7, 7, 7, 7, 7, 7, 7, 7, 7, 7, 3, 20, 20, 23, 7, 7, 7, 7, 7, 7, 7, 7, 7, 7, 7, 24, 21, 6, 24, 26, 20, 20, 20, 20, 20, 20, 20, 20, 20, 20, 20, 20, 26, 20, 20, 20, 20, 20, 20, 20, 20, 20, 20, 20, 20, 3, 20, 20, 23, 7, 7, 7, 7, 7, 7, 7, 7, 7, 7, 7, 3, 20, 20, 23, 7, 7, 7, 7, 7, 7, 7, 7, 7, 7, 7, 3, 20, 20, 23, 7, 7, 7, 7, 7, 7, 7, 7, 7, 7, 7, 3, 20, 20, 23, 7, 7, 7, 7, 7, 7, 7, 7, 7, 7, 7, 3, 20, 20, 23, 7, 7, 7, 7, 7, 7, 7, 7, 7, 7, 7, 3, 20, 20, 23, 7, 7, 7, 7, 7, 7, 7, 7, 7, 7, 7, 3, 20, 20, 23, 7, 7, 7, 7, 7, 7, 7, 7, 7, 7, 7, 3, 20, 20, 23, 7, 7, 7, 7, 7, 7, 7, 7, 7, 7, 7, 3, 20, 20, 23, 7, 7, 7, 7, 7, 7, 7, 7, 7, 7, 7, 3, 20, 20, 23, 7, 7, 7, 7, 7, 7, 7, 7, 7, 7, 7, 3, 20, 20, 23, 7, 7, 7, 7, 7, 7, 7, 7, 7, 7, 7, 3, 20, 20, 23, 7, 7, 7, 7, 7, 7, 7, 7, 7, 7, 7, 20, 9, 3, 20, 20, 23, 7, 7, 7, 7, 7, 7, 7, 7, 7, 7, 7, 20, 1, 2, 20, 20, 21, 4, 20, 20, 0, 10, 5, 25, 8, 20, 20, 20, 20, 20, 20, 20, 20, 20, 20, 21, 8, 20, 20, 20, 20, 20, 20, 20, 20, 20, 8, 20, 20, 20, 20, 20, 20, 20, 20, 20, 8, 20, 20, 20, 20, 20, 20, 20, 20, 20, 8, 20, 20, 20, 20, 20, 20, 20, 20, 20, 8, 20, 20, 20, 20, 20, 20, 20, 20, 20, 8, 20, 20, 20, 20, 20, 20, 20, 20, 20, 8, 20, 20, 20, 20, 20, 20, 20, 20, 20, 8, 20, 20, 20, 20, 20, 20, 20, 20, 20, 8, 20, 20, 20, 20, 20, 20, 20, 20, 20, 8, 20, 20, 20, 20, 20, 20, 20, 20, 20, 20, 20, 20, 20, 20, 2, 20, 20, 20, 20, 20, 20, 22, 3, 20, 20, 23, 7, 7, 7, 7, 7, 7, 7, 7, 7, 7, 7, 3, 20, 20, 23, 7, 7, 7, 7, 7, 7, 7, 7, 7, 7, 7, 12, 20, 20, 20, 20, 21, 20, 20, 20, 20, 20, 20, 20, 20, 20, 20, 20, 20, 20, 20, 20, 20, 20, 21]
def lenL : List Nat := [16, 7, 4, 4, 10, 15, 15, 15, 15, 15, 15, 15, 15, 15, 15, 15, 7, 4, 4, 10, 15, 15, 15, 15, 15, 15, 15, 15, 15, 15, 15, 2, 2, 5, 12, 12, 4, 4, 4, 4, 4, 4, 4, 4, 4, 4, 4, 4, 12, 8, 8, 8, 8, 8, 8, 8, 8, 8, 8, 8, 8, 7, 4, 4, 10, 15, 15, 15, 15, 15, 15, 15, 15, 15, 15, 15, 7, 4, 4, 10, 15, 15, 15, 15, 15, 15, 15, 15, 15, 15, 15, 7, 4, 4, 10, 15, 15, 15, 15, 15, 15, 15, 15, 15, 15, 15, 7, 4, 4, 10, 15, 15, 15, 15, 15, 15, 15, 15, 15, 15, 15, 7, 4, 4, 10, 15, 15, 15, 15, 15, 15, 15, 15, 15, 15, 15, 7, 4, 4, 10, 15, 15, 15, 15, 15, 15, 15, 15, 15, 15, 15, 7, 4, 4, 10, 15, 15, 15, 15, 15, 15, 15, 15, 15, 15, 15, 7, 4, 4, 10, 15, 15, 15, 15, 15, 15, 15, 15, 15, 15, 15, 7, 4, 4, 10, 15, 15, 15, 15, 15, 15, 15, 15, 15, 15, 15, 7, 4, 4, 10, 15, 15, 15, 15, 15, 15, 15, 15, 15, 15, 15, 7, 4, 4, 10, 15, 15, 15, 15, 15, 15, 15, 15, 15, 15, 15, 7, 4, 4, 10, 15, 15, 15, 15, 15, 15, 15, 15, 15, 15, 15, 160, 8, 7, 4, 4, 10, 15, 15, 15, 15, 15, 15, 15, 15, 15, 15, 15, 6, 2, 3, 40, 40, 351, 8, 4, 8, 11, 9, 5, 10, 14, 3, 3, 4, 4, 4, 4, 4, 3, 4, 10, 1024, 14, 3, 3, 4, 4, 4, 4, 4, 3, 4, 14, 3, 3, 4, 4, 4, 4, 4, 3, 4, 14, 3, 3, 4, 4, 4, 4, 4, 3, 4, 14, 3, 3, 4, 4, 4, 4, 4, 3, 4, 14, 3, 3, 4, 4, 4, 4, 4, 3, 4, 14, 3, 3, 4, 4, 4, 4, 4, 3, 4, 14, 3, 3, 4, 4, 4, 4, 4, 3, 4, 14, 3, 3, 4, 4, 4, 4, 4, 3, 4, 14, 3, 3, 4, 4, 4, 4, 4, 3, 4, 14, 3, 3, 4, 4, 4, 4, 4, 3, 4, 360, 360, 360, 360, 360, 3, 40, 40, 6, 6, 6, 6, 1000, 7, 4, 4, 10, 15, 15, 15, 15, 15, 15, 15, 15, 15, 15, 15, 7, 4, 4, 10, 15, 15, 15, 15, 15, 15, 15, 15, 15, 15, 15, 30, 137, 137, 1644, 250, 2, 10, 10, 10, 10, 160, 7, 137, 30, 30, 30, 30, 30, 30, 10, 6480, 9600, 4, 1024]
def rhoL : List (List Nat) := [[1, 16, 31, 32, 33, 241, 242, 259, 264, 267, 268, 269, 265, 266, 0, 0], [2, 3, 0, 0, 0, 4, 5], [], [], [6, 7, 8, 9, 10, 11, 12, 13, 14, 15], [0, 0, 0, 0, 0, 0, 0, 0, 0, 0, 0, 0, 0, 0, 0], [0, 0, 0, 0, 0, 0, 0, 0, 0, 0, 0, 0, 0, 0, 0], [0, 0, 0, 0, 0, 0, 0, 0, 0, 0, 0, 0, 0, 0, 0], [0, 0, 0, 0, 0, 0, 0, 0, 0, 0, 0, 0, 0, 0, 0], [0, 0, 0, 0, 0, 0, 0, 0, 0, 0, 0, 0, 0, 0, 0], [0, 0, 0, 0, 0, 0, 0, 0, 0, 0, 0, 0, 0, 0, 0], [0, 0, 0, 0, 0, 0, 0, 0, 0, 0, 0, 0, 0, 0, 0], [0, 0, 0, 0, 0, 0, 0, 0, 0, 0, 0, 0, 0, 0, 0], [0, 0, 0, 0, 0, 0, 0, 0, 0, 0, 0, 0, 0, 0, 0], [0, 0, 0, 0, 0, 0, 0, 0, 0, 0, 0, 0, 0, 0, 0], [0, 0, 0, 0, 0, 0, 0, 0, 0, 0, 0, 0, 0, 0, 0], [17, 18, 0, 0, 0, 19, 20], [], [], [21, 22, 23, 24, 25, 26, 27, 28, 29, 30], [0, 0, 0, 0, 0, 0, 0, 0, 0, 0, 0, 0, 0, 0, 0], [0, 0, 0, 0, 0, 0, 0, 0, 0, 0, 0, 0, 0, 0, 0], [0, 0, 0, 0, 0, 0, 0, 0, 0, 0, 0, 0, 0, 0, 0], [0, 0, 0, 0, 0, 0, 0, 0, 0, 0, 0, 0, 0, 0, 0], [0, 0, 0, 0, 0, 0, 0, 0, 0, 0, 0, 0, 0, 0, 0], [0, 0, 0, 0, 0, 0, 0, 0, 0, 0, 0, 0, 0, 0, 0], [0, 0, 0, 0, 0, 0, 0, 0, 0, 0, 0, 0, 0, 0, 0], [0, 0, 0, 0, 0, 0, 0, 0, 0, 0, 0, 0, 0, 0, 0], [0, 0, 0, 0, 0, 0, 0, 0, 0, 0, 0, 0, 0, 0, 0], [0, 0, 0, 0, 0, 0, 0, 0, 0, 0, 0, 0, 0, 0, 0], [0, 0, 0, 0, 0, 0, 0, 0, 0, 0, 0, 0, 0, 0, 0], [396, 411], [], [0, 0, 34, 35, 48], [61, 76, 91, 106, 121, 136, 151, 166, 181, 196, 211, 226], [36, 37, 38, 39, 40, 41, 42, 43, 44, 45, 46, 47], [], [], [], [], [], [], [], [], [], [], [], [], [49, 50, 51, 52, 53, 54, 55, 56, 57, 58, 59, 60], [], [], [], [], [], [], [], [], [], [], [], [], [62, 63, 0, 0, 0, 64, 65], [], [], [66, 67, 68, 69, 70, 71, 72, 73, 74, 75], [0, 0, 0, 0, 0, 0, 0, 0, 0, 0, 0, 0, 0, 0, 0], [0, 0, 0, 0, 0, 0, 0, 0, 0, 0, 0, 0, 0, 0, 0], [0, 0, 0, 0, 0, 0, 0, 0, 0, 0, 0, 0, 0, 0, 0], [0, 0, 0, 0, 0, 0, 0, 0, 0, 0, 0, 0, 0, 0, 0], [0, 0, 0, 0, 0, 0, 0, 0, 0, 0, 0, 0, 0, 0, 0], [0, 0, 0, 0, 0, 0, 0, 0, 0, 0, 0, 0, 0, 0, 0], [0, 0, 0, 0, 0, 0, 0, 0, 0, 0, 0, 0, 0, 0, 0], [0, 0, 0, 0, 0, 0, 0, 0, 0, 0, 0, 0, 0, 0, 0], [0, 0, 0, 0, 0, 0, 0, 0, 0, 0, 0, 0, 0, 0, 0], [0, 0, 0, 0, 0, 0, 0, 0, 0, 0, 0, 0, 0, 0, 0], [0, 0, 0, 0, 0, 0, 0, 0, 0, 0, 0, 0, 0, 0, 0], [77, 78, 0, 0, 0, 79, 80], [], [], [81, 82, 83, 84, 85, 86, 87, 88, 89, 90], [0, 0, 0, 0, 0, 0, 0, 0, 0, 0, 0, 0, 0, 0, 0], [0, 0, 0, 0, 0, 0, 0, 0, 0, 0, 0, 0, 0, 0, 0], [0, 0, 0, 0, 0, 0, 0, 0, 0, 0, 0, 0, 0, 0, 0], [0, 0, 0, 0, 0, 0, 0, 0, 0, 0, 0, 0, 0, 0, 0], [0, 0, 0, 0, 0, 0, 0, 0, 0, 0, 0, 0, 0, 0, 0], [0, 0, 0, 0, 0, 0, 0, 0, 0, 0, 0, 0, 0, 0, 0], [0, 0, 0, 0, 0, 0, 0, 0, 0, 0, 0, 0, 0, 0, 0], [0, 0, 0, 0, 0, 0, 0, 0, 0, 0, 0, 0, 0, 0, 0], [0, 0, 0, 0, 0, 0, 0, 0, 0, 0, 0, 0, 0, 0, 0], [0, 0, 0, 0, 0, 0, 0, 0, 0, 0, 0, 0, 0, 0, 0], [0, 0, 0, 0, 0, 0, 0, 0, 0, 0, 0, 0, 0, 0, 0], [92, 93, 0, 0, 0, 94, 95], [], [], [96, 97, 98, 99, 100, 101, 102, 103, 104, 105], [0, 0, 0, 0, 0, 0, 0, 0, 0, 0, 0, 0, 0, 0, 0], [0, 0, 0, 0, 0, 0, 0, 0, 0, 0, 0, 0, 0, 0, 0], [0, 0, 0, 0, 0, 0, 0, 0, 0, 0, 0, 0, 0, 0, 0], [0, 0, 0, 0, 0, 0, 0, 0, 0, 0, 0, 0, 0, 0, 0], [0, 0, 0, 0, 0, 0, 0, 0, 0, 0, 0, 0, 0, 0, 0], [0, 0, 0, 0, 0, 0, 0, 0, 0, 0, 0, 0, 0, 0, 0], [0, 0, 0, 0, 0, 0, 0, 0, 0, 0, 0, 0, 0, 0, 0], [0, 0, 0, 0, 0, 0, 0, 0, 0, 0, 0, 0, 0, 0, 0], [0, 0, 0, 0, 0, 0, 0, 0, 0, 0, 0, 0, 0, 0, 0], [0, 0, 0, 0, 0, 0, 0, 0, 0, 0, 0, 0, 0, 0, 0], [0, 0, 0, 0, 0, 0, 0, 0, 0, 0, 0, 0, 0, 0, 0], [107, 108, 0, 0, 0, 109, 110], [], [], [111, 112, 113, 114, 115, 116, 117, 118, 119, 120], [0, 0, 0, 0, 0, 0, 0, 0, 0, 0, 0, 0, 0, 0, 0], [0, 0, 0, 0, 0, 0, 0, 0, 0, 0, 0, 0, 0, 0, 0], [0, 0, 0, 0, 0, 0, 0, 0, 0, 0, 0, 0, 0, 0, 0], [0, 0, 0, 0, 0, 0, 0, 0, 0, 0, 0, 0, 0, 0, 0], [0, 0, 0, 0, 0, 0, 0, 0, 0, 0, 0, 0, 0, 0, 0], [0, 0, 0, 0, 0, 0, 0, 0, 0, 0, 0, 0, 0, 0, 0], [0, 0, 0, 0, 0, 0, 0, 0, 0, 0, 0, 0, 0, 0, 0], [0, 0, 0, 0, 0, 0, 0, 0, 0, 0, 0, 0, 0, 0, 0], [0, 0, 0, 0, 0, 0, 0, 0, 0, 0, 0, 0, 0, 0, 0], [0, 0, 0, 0, 0, 0, 0, 0, 0, 0, 0, 0, 0, 0, 0], [0, 0, 0, 0, 0, 0, 0, 0, 0, 0, 0, 0, 0, 0, 0], [122, 123, 0, 0, 0, 124, 125], [], [], [126, 127, 128, 129, 130, 131, 132, 133, 134, 135], [0, 0, 0, 0, 0, 0, 0, 0, 0, 0, 0, 0, 0, 0, 0], [0, 0, 0, 0, 0, 0, 0, 0, 0, 0, 0, 0, 0, 0, 0], [0, 0, 0, 0, 0, 0, 0, 0, 0, 0, 0, 0, 0, 0, 0], [0, 0, 0, 0, 0, 0, 0, 0, 0, 0, 0, 0, 0, 0, 0], [0, 0, 0, 0, 0, 0, 0, 0, 0, 0, 0, 0, 0, 0, 0], [0, 0, 0, 0, 0, 0, 0, 0, 0, 0, 0, 0, 0, 0, 0], [0, 0, 0, 0, 0, 0, 0, 0, 0, 0, 0, 0, 0, 0, 0], [0, 0, 0, 0, 0, 0, 0, 0, 0, 0, 0, 0, 0, 0, 0], [0, 0, 0, 0, 0, 0, 0, 0, 0, 0, 0, 0, 0, 0, 0], [0, 0, 0, 0, 0, 0, 0, 0, 0, 0, 0, 0, 0, 0, 0], [0, 0, 0, 0, 0, 0, 0, 0, 0, 0, 0, 0, 0, 0, 0], [137, 138, 0, 0, 0, 139, 140], [], [], [141, 142, 143, 144, 145, 146, 147, 148, 149, 150], [0, 0, 0, 0, 0, 0, 0, 0, 0, 0, 0, 0, 0, 0, 0], [0, 0, 0, 0, 0, 0, 0, 0, 0, 0, 0, 0, 0, 0, 0], [0, 0, 0, 0, 0, 0, 0, 0, 0, 0, 0, 0, 0, 0, 0], [0, 0, 0, 0, 0, 0, 0, 0, 0, 0, 0, 0, 0, 0, 0], [0, 0, 0, 0, 0, 0, 0, 0, 0, 0, 0, 0, 0, 0, 0], [0, 0, 0, 0, 0, 0, 0, 0, 0, 0, 0, 0, 0, 0, 0], [0, 0, 0, 0, 0, 0, 0, 0, 0, 0, 0, 0, 0, 0, 0], [0, 0, 0, 0, 0, 0, 0, 0, 0, 0, 0, 0, 0, 0, 0], [0, 0, 0, 0, 0, 0, 0, 0, 0, 0, 0, 0, 0, 0, 0], [0, 0, 0, 0, 0, 0, 0, 0, 0, 0, 0, 0, 0, 0, 0], [0, 0, 0, 0, 0, 0, 0, 0, 0, 0, 0, 0, 0, 0, 0], [152, 153, 0, 0, 0, 154, 155], [], [], [156, 157, 158, 159, 160, 161, 162, 163, 164, 165], [0, 0, 0, 0, 0, 0, 0, 0, 0, 0, 0, 0, 0, 0, 0], [0, 0, 0, 0, 0, 0, 0, 0, 0, 0, 0, 0, 0, 0, 0], [0, 0, 0, 0, 0, 0, 0, 0, 0, 0, 0, 0, 0, 0, 0], [0, 0, 0, 0, 0, 0, 0, 0, 0, 0, 0, 0, 0, 0, 0], [0, 0, 0, 0, 0, 0, 0, 0, 0, 0, 0, 0, 0, 0, 0], [0, 0, 0, 0, 0, 0, 0, 0, 0, 0, 0, 0, 0, 0, 0], [0, 0, 0, 0, 0, 0, 0, 0, 0, 0, 0, 0, 0, 0, 0], [0, 0, 0, 0, 0, 0, 0, 0, 0, 0, 0, 0, 0, 0, 0], [0, 0, 0, 0, 0, 0, 0, 0, 0, 0, 0, 0, 0, 0, 0], [0, 0, 0, 0, 0, 0, 0, 0, 0, 0, 0, 0, 0, 0, 0], [0, 0, 0, 0, 0, 0, 0, 0, 0, 0, 0, 0, 0, 0, 0], [167, 168, 0, 0, 0, 169, 170], [], [], [171, 172, 173, 174, 175, 176, 177, 178, 179, 180], [0, 0, 0, 0, 0, 0, 0, 0, 0, 0, 0, 0, 0, 0, 0], [0, 0, 0, 0, 0, 0, 0, 0, 0, 0, 0, 0, 0, 0, 0], [0, 0, 0, 0, 0, 0, 0, 0, 0, 0, 0, 0, 0, 0, 0], [0, 0, 0, 0, 0, 0, 0, 0, 0, 0, 0, 0, 0, 0, 0], [0, 0, 0, 0, 0, 0, 0, 0, 0, 0, 0, 0, 0, 0, 0], [0, 0, 0, 0, 0, 0, 0, 0, 0, 0, 0, 0, 0, 0, 0], [0, 0, 0, 0, 0, 0, 0, 0, 0, 0, 0, 0, 0, 0, 0], [0, 0, 0, 0, 0, 0, 0, 0, 0, 0, 0, 0, 0, 0, 0], [0, 0, 0, 0, 0, 0, 0, 0, 0, 0, 0, 0, 0, 0, 0], [0, 0, 0, 0, 0, 0, 0, 0, 0, 0, 0, 0, 0, 0, 0], [0, 0, 0, 0, 0, 0, 0, 0, 0, 0, 0, 0, 0, 0, 0], [182, 183, 0, 0, 0, 184, 185], [], [], [186, 187, 188, 189, 190, 191, 192, 193, 194, 195], [0, 0, 0, 0, 0, 0, 0, 0, 0, 0, 0, 0, 0, 0, 0], [0, 0, 0, 0, 0, 0, 0, 0, 0, 0, 0, 0, 0, 0, 0], [0, 0, 0, 0, 0, 0, 0, 0, 0, 0, 0, 0, 0, 0, 0], [0, 0, 0, 0, 0, 0, 0, 0, 0, 0, 0, 0, 0, 0, 0], [0, 0, 0, 0, 0, 0, 0, 0, 0, 0, 0, 0, 0, 0, 0], [0, 0, 0, 0, 0, 0, 0, 0, 0, 0, 0, 0, 0, 0, 0], [0, 0, 0, 0, 0, 0, 0, 0, 0, 0, 0, 0, 0, 0, 0], [0, 0, 0, 0, 0, 0, 0, 0, 0, 0, 0, 0, 0, 0, 0], [0, 0, 0, 0, 0, 0, 0, 0, 0, 0, 0, 0, 0, 0, 0], [0, 0, 0, 0, 0, 0, 0, 0, 0, 0, 0, 0, 0, 0, 0], [0, 0, 0, 0, 0, 0, 0, 0, 0, 0, 0, 0, 0, 0, 0], [197, 198, 0, 0, 0, 199, 200], [], [], [201, 202, 203, 204, 205, 206, 207, 208, 209, 210], [0, 0, 0, 0, 0, 0, 0, 0, 0, 0, 0, 0, 0, 0, 0], [0, 0, 0, 0, 0, 0, 0, 0, 0, 0, 0, 0, 0, 0, 0], [0, 0, 0, 0, 0, 0, 0, 0, 0, 0, 0, 0, 0, 0, 0], [0, 0, 0, 0, 0, 0, 0, 0, 0, 0, 0, 0, 0, 0, 0], [0, 0, 0, 0, 0, 0, 0, 0, 0, 0, 0, 0, 0, 0, 0], [0, 0, 0, 0, 0, 0, 0, 0, 0, 0, 0, 0, 0, 0, 0], [0, 0, 0, 0, 0, 0, 0, 0, 0, 0, 0, 0, 0, 0, 0], [0, 0, 0, 0, 0, 0, 0, 0, 0, 0, 0, 0, 0, 0, 0], [0, 0, 0, 0, 0, 0, 0, 0, 0, 0, 0, 0, 0, 0, 0], [0, 0, 0, 0, 0, 0, 0, 0, 0, 0, 0, 0, 0, 0, 0], [0, 0, 0, 0, 0, 0, 0, 0, 0, 0, 0, 0, 0, 0, 0], [212, 213, 0, 0, 0, 214, 215], [], [], [216, 217, 218, 219, 220, 221, 222, 223, 224, 225], [0, 0, 0, 0, 0, 0, 0, 0, 0, 0, 0, 0, 0, 0, 0], [0, 0, 0, 0, 0, 0, 0, 0, 0, 0, 0, 0, 0, 0, 0], [0, 0, 0, 0, 0, 0, 0, 0, 0, 0, 0, 0, 0, 0, 0], [0, 0, 0, 0, 0, 0, 0, 0, 0, 0, 0, 0, 0, 0, 0], [0, 0, 0, 0, 0, 0, 0, 0, 0, 0, 0, 0, 0, 0, 0], [0, 0, 0, 0, 0, 0, 0, 0, 0, 0, 0, 0, 0, 0, 0], [0, 0, 0, 0, 0, 0, 0, 0, 0, 0, 0, 0, 0, 0, 0], [0, 0, 0, 0, 0, 0, 0, 0, 0, 0, 0, 0, 0, 0, 0], [0, 0, 0, 0, 0, 0, 0, 0, 0, 0, 0, 0, 0, 0, 0], [0, 0, 0, 0, 0, 0, 0, 0, 0, 0, 0, 0, 0, 0, 0], [0, 0, 0, 0, 0, 0, 0, 0, 0, 0, 0, 0, 0, 0, 0], [227, 228, 0, 0, 0, 229, 230], [], [], [231, 232, 233, 234, 235, 236, 237, 238, 239, 240], [0, 0, 0, 0, 0, 0, 0, 0, 0, 0, 0, 0, 0, 0, 0], [0, 0, 0, 0, 0, 0, 0, 0, 0, 0, 0, 0, 0, 0, 0], [0, 0, 0, 0, 0, 0, 0, 0, 0, 0, 0, 0, 0, 0, 0], [0, 0, 0, 0, 0, 0, 0, 0, 0, 0, 0, 0, 0, 0, 0], [0, 0, 0, 0, 0, 0, 0, 0, 0, 0, 0, 0, 0, 0, 0], [0, 0, 0, 0, 0, 0, 0, 0, 0, 0, 0, 0, 0, 0, 0], [0, 0, 0, 0, 0, 0, 0, 0, 0, 0, 0, 0, 0, 0, 0], [0, 0, 0, 0, 0, 0, 0, 0, 0, 0, 0, 0, 0, 0, 0], [0, 0, 0, 0, 0, 0, 0, 0, 0, 0, 0, 0, 0, 0, 0], [0, 0, 0, 0, 0, 0, 0, 0, 0, 0, 0, 0, 0, 0, 0], [0, 0, 0, 0, 0, 0, 0, 0, 0, 0, 0, 0, 0, 0, 0], [], [243, 0, 0, 0, 0, 0, 0, 258], [244, 245, 0, 0, 0, 246, 247], [], [], [248, 249, 250, 251, 252, 253, 254, 255, 256, 257], [0, 0, 0, 0, 0, 0, 0, 0, 0, 0, 0, 0, 0, 0, 0], [0, 0, 0, 0, 0, 0, 0, 0, 0, 0, 0, 0, 0, 0, 0], [0, 0, 0, 0, 0, 0, 0, 0, 0, 0, 0, 0, 0, 0, 0], [0, 0, 0, 0, 0, 0, 0, 0, 0, 0, 0, 0, 0, 0, 0], [0, 0, 0, 0, 0, 0, 0, 0, 0, 0, 0, 0, 0, 0, 0], [0, 0, 0, 0, 0, 0, 0, 0, 0, 0, 0, 0, 0, 0, 0], [0, 0, 0, 0, 0, 0, 0, 0, 0, 0, 0, 0, 0, 0, 0], [0, 0, 0, 0, 0, 0, 0, 0, 0, 0, 0, 0, 0, 0, 0], [0, 0, 0, 0, 0, 0, 0, 0, 0, 0, 0, 0, 0, 0, 0], [0, 0, 0, 0, 0, 0, 0, 0, 0, 0, 0, 0, 0, 0, 0], [0, 0, 0, 0, 0, 0, 0, 0, 0, 0, 0, 0, 0, 0, 0], [], [260, 263], [0, 261, 262], [], [], [], [0, 0, 265, 266, 267, 268, 269, 395], [], [], [0, 0, 0, 0, 0, 268, 269, 391, 392, 393, 394], [0, 269, 0, 383, 384, 385, 386, 387, 388], [0, 270, 271, 281, 282], [283, 293, 303, 313, 323, 333, 343, 353, 363, 373], [0, 272, 273, 274, 275, 276, 277, 278, 0, 0, 0, 0, 279, 280], [], [], [], [], [], [], [], [], [], [], [], [0, 284, 285, 286, 287, 288, 289, 290, 0, 0, 0, 0, 291, 292], [], [], [], [], [], [], [], [], [], [0, 294, 295, 296, 297, 298, 299, 300, 0, 0, 0, 0, 301, 302], [], [], [], [], [], [], [], [], [], [0, 304, 305, 306, 307, 308, 309, 310, 0, 0, 0, 0, 311, 312], [], [], [], [], [], [], [], [], [], [0, 314, 315, 316, 317, 318, 319, 320, 0, 0, 0, 0, 321, 322], [], [], [], [], [], [], [], [], [], [0, 324, 325, 326, 327, 328, 329, 330, 0, 0, 0, 0, 331, 332], [], [], [], [], [], [], [], [], [], [0, 334, 335, 336, 337, 338, 339, 340, 0, 0, 0, 0, 341, 342], [], [], [], [], [], [], [], [], [], [0, 344, 345, 346, 347, 348, 349, 350, 0, 0, 0, 0, 351, 352], [], [], [], [], [], [], [], [], [], [0, 354, 355, 356, 357, 358, 359, 360, 0, 0, 0, 0, 361, 362], [], [], [], [], [], [], [], [], [], [0, 364, 365, 366, 367, 368, 369, 370, 0, 0, 0, 0, 371, 372], [], [], [], [], [], [], [], [], [], [0, 374, 375, 376, 377, 378, 379, 380, 0, 0, 0, 0, 381, 382], [], [], [], [], [], [], [], [], [], [], [], [], [], [], [0, 389, 390], [], [], [], [], [], [], [], [397, 398, 0, 0, 0, 399, 400], [], [], [401, 402, 403, 404, 405, 406, 407, 408, 409, 410], [0, 0, 0, 0, 0, 0, 0, 0, 0, 0, 0, 0, 0, 0, 0], [0, 0, 0, 0, 0, 0, 0, 0, 0, 0, 0, 0, 0, 0, 0], [0, 0, 0, 0, 0, 0, 0, 0, 0, 0, 0, 0, 0, 0, 0], [0, 0, 0, 0, 0, 0, 0, 0, 0, 0, 0, 0, 0, 0, 0], [0, 0, 0, 0, 0, 0, 0, 0, 0, 0, 0, 0, 0, 0, 0], [0, 0, 0, 0, 0, 0, 0, 0, 0, 0, 0, 0, 0, 0, 0], [0, 0, 0, 0, 0, 0, 0, 0, 0, 0, 0, 0, 0, 0, 0], [0, 0, 0, 0, 0, 0, 0, 0, 0, 0, 0, 0, 0, 0, 0], [0, 0, 0, 0, 0, 0, 0, 0, 0, 0, 0, 0, 0, 0, 0], [0, 0, 0, 0, 0, 0, 0, 0, 0, 0, 0, 0, 0, 0, 0], [0, 0, 0, 0, 0, 0, 0, 0, 0, 0, 0, 0, 0, 0, 0], [412, 413, 0, 0, 0, 414, 415], [], [], [416, 417, 418, 419, 420, 421, 422, 423, 424, 425], [0, 0, 0, 0, 0, 0, 0, 0, 0, 0, 0, 0, 0, 0, 0], [0, 0, 0, 0, 0, 0, 0, 0, 0, 0, 0, 0, 0, 0, 0], [0, 0, 0, 0, 0, 0, 0, 0, 0, 0, 0, 0, 0, 0, 0], [0, 0, 0, 0, 0, 0, 0, 0, 0, 0, 0, 0, 0, 0, 0], [0, 0, 0, 0, 0, 0, 0, 0, 0, 0, 0, 0, 0, 0, 0], [0, 0, 0, 0, 0, 0, 0, 0, 0, 0, 0, 0, 0, 0, 0], [0, 0, 0, 0, 0, 0, 0, 0, 0, 0, 0, 0, 0, 0, 0], [0, 0, 0, 0, 0, 0, 0, 0, 0, 0, 0, 0, 0, 0, 0], [0, 0, 0, 0, 0, 0, 0, 0, 0, 0, 0, 0, 0, 0, 0], [0, 0, 0, 0, 0, 0, 0, 0, 0, 0, 0, 0, 0, 0, 0], [0, 0, 0, 0, 0, 0, 0, 0, 0, 0, 0, 0, 0, 0, 0], [427, 428, 0, 429, 0, 430, 431, 432, 433, 434, 435, 436, 0, 0, 0, 437, 438, 439, 440, 441, 442, 443, 444, 445, 446, 0, 447, 0, 448, 449], [], [], [], [], [], [], [], [], [], [], [], [], [], [], [], [], [], [], [], [], [], [], []]
def ftyL : List (List Nat) := [[0, 0, 0, 0, 0, 2, 2, 2, 2, 2, 2], [2, 2], [0, 2, 2], [2, 2, 0, 0, 0, 2, 2], [0, 1, 2, 2, 2, 2, 2, 2], [0, 2, 2, 2, 2], [0, 0, 2, 2, 2], [0, 0, 0, 0, 0, 0, 0, 0, 0, 0, 0, 0, 0, 0, 0], [0, 2, 2, 2, 2, 2, 2, 2, 0, 0, 0, 0, 2, 2], [2, 0, 0, 0, 0, 0, 0, 2], [0, 2, 0, 2, 2, 2, 2, 2, 2], [2, 2, 2, 2, 2, 2, 2, 2, 2, 2, 2, 2, 2, 2, 0, 0], [2, 2, 0, 2, 0, 2, 2, 2, 2, 2, 2, 2, 0, 0, 0, 2, 2, 2, 2, 2, 2, 2, 2, 2, 2, 0, 2, 0, 2, 2]]
def kap (a : Nat) : Nat := kapL.getD a 99
def len (a : Nat) : Nat := lenL.getD a 0
def rho (a k : Nat) : Nat := (rhoL.getD a []).getD k 0
def fty (c : Nat) : List Nat := ftyL.getD c []
abbrev NX : Nat := 426
abbrev NN : Nat := 450
theorem kapL_len : kapL.length = NN := by decide +kernel
theorem kap_lt {a c : Nat} (h : kap a = c) (hc : c < 99) : a < NN := by
  rcases Nat.lt_or_ge a NN with q | q
  · exact q
  · have h1 : kapL.getD a 99 = 99 := by rw [List.getD_eq_getElem?_getD, List.getElem?_eq_none (by rw [kapL_len]; exact q)]; rfl
    unfold kap at h
    omega
theorem kap_all {c : Nat} (hc : c < 99) {P : Nat → Prop} (h : ∀ a, a < NN → kap a = c → P a) (a : Nat) (ha : kap a = c) : P a := h a (kap_lt ha hc) ha
end
section
/-! the world as one list of cells; the judgement J: a frame of a method, over the world -/
abbrev Mm : Type := (Nat → Nat → Int32) × (Nat → Nat → Int64)
abbrev Mf : Type := Mm × (Nat → Nat → Option Nat) × Nat × (Nat → Nat)
abbrev GT : Type := Launch × Nat × va_G × (Nat → ClassId) × (Nat → Nat)
def fv (w : Mf) (a k t : Nat) : Value := if t = 0 then .int (w.1.1 a k) else if t = 1 then .long (w.1.2 a k) else va_rf ((w.2.1 a k).map w.2.2.2)
def fvs (w : Mf) (a : Nat) : List Value := (fty (kap a)).mapIdx (fun k t => fv w a k t)
def ce (G : GT) (w : Mf) (a : Nat) : va_E :=
  if kap a < 20 then .inr (kap a, fvs w a)
  else if kap a < 22 then .inl (G.2.2.2.1 (kap a - 20), len a, .inl (w.1.1 a))
  else if kap a = 22 then .inl (G.2.2.2.1 2, len a, .inr (.inl (w.1.2 a)))
  else .inl (G.2.2.2.1 (kap a - 20), len a, .inr (.inr (.inr (.inr (fun i => (w.2.1 a i).map w.2.2.2)))))
def wsO (G : GT) (w : Mf) : va_W := (List.range w.2.2.1).map (fun a => (w.2.2.2 a, ce G w a))
def gA (G : GT) : Nat → Prop := fun q => G.2.1 ≤ q
def wd (G : GT) (w : Mf) (H : Heap) : Prop := va_P G.2.2.1 vwCl (wsO G w) H ∧ va_D (gA G) (wsO G w)
def tyO (G : GT) : List (ClassId × FieldType) := [(G.2.2.2.1 0, .int), (G.2.2.2.1 1, .boolean), (G.2.2.2.1 2, .long), (G.2.2.2.1 3, .object "DieLineChecker$Panel"), (G.2.2.2.1 4, .object "DieLineChecker$Design"), (G.2.2.2.1 5, .object "DieLineChecker$Pose"), (G.2.2.2.1 6, .array .int)]
theorem wsO_at {G : GT} {w : Mf} {a : Nat} (h : a < w.2.2.1) : (wsO G w)[a]? = some (w.2.2.2 a, ce G w a) := by
  unfold wsO
  rw [List.getElem?_map, List.getElem?_range h]
  rfl
theorem wsO_set {G : GT} {w w' : Mf} {a : Nat} (h2 : w'.2.2 = w.2.2) (ho : ∀ b, b ≠ a → ce G w' b = ce G w b) : (wsO G w).set a (w.2.2.2 a, ce G w' a) = wsO G w' := by
  unfold wsO
  rw [h2]
  apply List.ext_getElem?
  intro i
  by_cases hi : i = a
  · subst hi
    by_cases hl : i < w.2.2.1
    · rw [List.getElem?_set_self (by simpa using hl), List.getElem?_map, List.getElem?_range hl]
      rfl
    · rw [List.getElem?_eq_none (by simpa using hl), List.getElem?_eq_none (by simpa using hl)]
  · rw [List.getElem?_set_ne (Ne.symm hi), List.getElem?_map, List.getElem?_map]
    by_cases hl : i < w.2.2.1
    · rw [List.getElem?_range hl]
      show some (_, _) = some (_, _)
      rw [ho i hi]
    · rw [List.getElem?_eq_none (by simpa using hl)]
      rfl
-- writes
def upI (f : Nat → Nat → Int32) (a k : Nat) (x : Int32) : Nat → Nat → Int32 := fun b j => if b = a then (if j = k then x else f b j) else f b j
def upL (f : Nat → Nat → Int64) (a k : Nat) (x : Int64) : Nat → Nat → Int64 := fun b j => if b = a then (if j = k then x else f b j) else f b j
def wI (m : Mm) (a k : Nat) (x : Int32) : Mm := (upI m.1 a k x, m.2)
def wL (m : Mm) (a k : Nat) (x : Int64) : Mm := (m.1, upL m.2 a k x)
def fl (ad : Nat → Nat) (m : Mm) : Mf := (m, fun a k => some (rho a k), NN, ad)
theorem fvs_at {w : Mf} {a c k t : Nat} (hc : kap a = c) (hk : (fty c)[k]? = some t) : (fvs w a)[k]? = some (fv w a k t) := by
  unfold fvs
  rw [List.getElem?_mapIdx, hc, hk]
  rfl
theorem fvs_set {w w' : Mf} {a k : Nat} (v : Value) (hv : ∀ t, (fty (kap a))[k]? = some t → fv w' a k t = v) (ho : ∀ j t, j ≠ k → fv w' a j t = fv w a j t) : (fvs w a).set k v = fvs w' a := by
  unfold fvs
  apply List.ext_getElem?
  intro i
  by_cases hi : i = k
  · subst hi
    by_cases hl : i < (fty (kap a)).length
    · rw [List.getElem?_set_self (by simpa using hl), List.getElem?_mapIdx, List.getElem?_eq_getElem hl]
      exact congrArg some (hv _ (List.getElem?_eq_getElem hl)).symm
    · rw [List.getElem?_eq_none (by simpa using hl), List.getElem?_eq_none (by simpa using hl)]
  · rw [List.getElem?_set_ne (Ne.symm hi), List.getElem?_mapIdx, List.getElem?_mapIdx]
    cases (fty (kap a))[i]? with
    | none => rfl
    | some t => exact congrArg some (ho i t hi).symm
theorem ce_fo {G : GT} {w w' : Mf} {b : Nat} (h1 : w'.1.1 b = w.1.1 b) (h2 : w'.1.2 b = w.1.2 b) (h3 : w'.2.1 b = w.2.1 b) (h4 : w'.2.2.2 = w.2.2.2) : ce G w' b = ce G w b := by
  have hf : fvs w' b = fvs w b := by
    unfold fvs fv
    rw [h1, h2, h3, h4]
  unfold ce
  rw [hf, h1, h2, h3, h4]
/-! statics: four rows of four numbers that nobody writes -/
def szC (k : Nat) : String × String := if k = 0 then ("DieLineChecker$Pose", "SIDE_BEGIN") else if k = 1 then ("DieLineChecker$Pose", "SIDE_END") else if k = 2 then ("DieLineChecker", "OUT_X") else ("DieLineChecker", "OUT_Y")
def szL : List (List Int32) := [[0, 1, 3, 0], [1, 2, 2, 3], [0, 1, 0, -1], [-1, 0, 1, 0]]
def szv (k j : Nat) : Int32 := (szL.getD k []).getD j 0
def SZ (G : GT) (U : State) (H : Heap) : Prop := ∀ k, k < 4 → va_Z (szC k).1 (szC k).2 "[I" (.ref (G.2.2.2.2 k)) (gA G) U H ∧ va_T .int (G.2.2.2.2 k) 4 (fun j => .int (szv k j)) (gA G) U H
/-! an activation -/
abbrev XT : Type := GT × Program × Env × Room × State × MethodId × Array Value × List Frame × Method × Code × (State → Prop)
abbrev xp (X : XT) := X.2.1
abbrev xe (X : XT) := X.2.2.1
abbrev xR (X : XT) := X.2.2.2.1
abbrev xs (X : XT) := X.2.2.2.2.1
abbrev xm (X : XT) := X.2.2.2.2.2.1
abbrev xa (X : XT) := X.2.2.2.2.2.2.1
abbrev xb (X : XT) := X.2.2.2.2.2.2.2.1
abbrev xh (X : XT) := X.2.2.2.2.2.2.2.2.1
abbrev xc (X : XT) := X.2.2.2.2.2.2.2.2.2.1
abbrev xQ (X : XT) := X.2.2.2.2.2.2.2.2.2.2
def J (X : XT) (q : Nat × Nat) (pc : Nat) (lv : List (Nat × Value)) (st : List Value) (w : Mf) : Prop :=
  ∀ (H : Heap) (ls : Array Slot) (locs : List Loc), wd X.1 w H → lv_has ls (xc X).maxLocals lv → va_S (gA X.1) (xs X).heap H locs →
    W (xp X) X.1.1 (xe X) (xR X) (xs X) (xm X) (xa X) (xb X) (xh X) (xc X) H locs q.1 q.2 (xQ X) (F0 (xm X) pc ls st)
/-! the words that every method has: those that stay by themselves, and the nest's, carried -/
def lw_ok : List Cond := lw_tbl.filter goodWord
theorem lw_good : GoodIn lw_ok lw_ok := fun w hw => ⟨hw, good_of_word (List.mem_filter.mp hw).2⟩
theorem lw_in {w : Cond} (h : w ∈ lw_tbl) (hg : goodWord w = true) : w ∈ lw_ok := List.mem_filter.mpr ⟨h, hg⟩
def isNs : Cond → Bool
  | .methodLinkNest .. => true
  | .fieldLinkNest .. => true
  | _ => false
def nsL : List Cond := lw_tbl.filter isNs
def TB (U : State) : Prop := (∀ z ∈ nsL, va_Nw z U) ∧ va_AO "DieLineChecker$Panel" U ∧ va_AO "DieLineChecker$Design" U ∧ va_AO "DieLineChecker$Pose" U
theorem TB.warm {s U : State} (hW : s.WarmedH U.vm) (h : TB s) : TB U := by
  refine ⟨fun z hz => ?_, h.2.1.moved hW.alike, h.2.2.1.moved hW.alike, h.2.2.2.moved hW.alike⟩
  have h1 := h.1 z hz
  have h2 := (List.mem_filter.mp hz).2
  cases z <;> first | exact va_Nw.warmM hW h1 | exact va_Nw.warmF hW h1 | (cases h2; done)
theorem TB.same {u U : State} (e : u.vm = U.vm) (h : TB u) : TB U := by
  refine ⟨fun z hz => ?_, h.2.1.moved (by rw [e]; exact Vm.Alike.refl _), h.2.2.1.moved (by rw [e]; exact Vm.Alike.refl _), h.2.2.2.moved (by rw [e]; exact Vm.Alike.refl _)⟩
  have h1 := h.1 z hz
  have h2 := (List.mem_filter.mp hz).2
  cases z <;> first | exact va_Nw.same rfl e h1 | (cases h2; done)
def Cx (X : XT) (cc : ByteArray) (nL : Nat) (own : String) (rm : Room) : Prop :=
  (xp X).tables.exec = Jvm.exec ∧ (xc X).code = cc ∧ (xc X).maxLocals = nL ∧ (xs X).vm.findClass own = some (xm X).cls ∧ (∀ z ∈ lw_ok, z.before (xa X) (xs X) = true) ∧
  va_K X.1.2.2.1 vwCl (tyO X.1) (xs X) ∧ SZ X.1 (xs X) (xs X).heap ∧ X.1.2.1 ≤ (xs X).heap.size ∧ TB (xs X) ∧ xR X = rm
def QcN (G : GT) (K : Option Value → Mf → Prop) : Array Value → State → Outcome → State → Prop := fun _ st oc t => (∃ (v : Option Value) (w : Mf), oc = .returned v ∧ K v w ∧ wd G w t.heap) ∧ va_F (gA G) st t
def PcN (G : GT) (av : List Value) (w : Mf) : Array Value → State → Prop := va_Pc av (fun U => wd G w U.heap ∧ va_K G.2.2.1 vwCl (tyO G) U ∧ SZ G U U.heap ∧ G.2.1 ≤ U.heap.size ∧ TB U)
def Rx (X : XT) (ret : Option FieldType) (K : Option Value → Mf → Prop) (q : Nat × Nat) : Prop :=
  (xh X).sig.returnType = ret ∧ (xh X).locks = false ∧ xQ X = MQ (xb X) (QcN X.1 K) (xa X) (xs X) q.1 q.2 (gA X.1)
def Cn (G : GT) (y : MethodName) (cc : ByteArray) (nL : Nat) (ret : Option FieldType) (rm : Room) (av : List Value) (q : Nat × Nat) (w : Mf) (K : Option Value → Mf → Prop) : Prop :=
  Met G.1 y (Cond.code y cc nL ret :: lw_ok) rm (PcN G av w) (QcN G K) q.1 q.2 (gA G)
theorem SZ.moved {G : GT} {u U : State} {H : Heap} (hvm : u.vm.Alike U.vm) (h : SZ G u H) : SZ G U H := fun k hk => ⟨(h k hk).1.moved hvm, (h k hk).2.moved hvm⟩
theorem SZ.kept {G : GT} {U : State} {H H1 : Heap} (h : SZ G U H) (hq : ∀ a : Nat, a < H.size → ¬ gA G a → H1[a]? = H[a]?) : SZ G U H1 := fun k hk => ⟨(h k hk).1.kept hq, (h k hk).2.kept hq⟩
theorem PcN.blind {G : GT} {av : List Value} {w : Mf} : FrameBlind (PcN G av w) := by
  intro a U g mk h
  obtain ⟨h1, h2, h3, h4, h5, h6⟩ := h
  exact ⟨h1, h2, va_K.moved (u := U) (U := U.calling g mk a) (Vm.Alike.refl U.vm) h3, SZ.moved (u := U) (U := U.calling g mk a) (Vm.Alike.refl U.vm) h4, h5, TB.same (u := U) (U := U.calling g mk a) rfl h6⟩
/-- a method's start -/
theorem Cn.of {G : GT} {y : MethodName} {cc : ByteArray} {nL : Nat} {ret : Option FieldType} {rm : Room} {av : List Value} {q : Nat × Nat} {w : Mf} {K : Option Value → Mf → Prop} (hy : plainName y.cls = true) (hl : (lg_sl av).length ≤ nL)
    (h : ∀ X : XT, X.1 = G → Cx X cc nL y.cls rm → Rx X ret K q → J X (0, 0) 0 (lv_args 0 av) [] w) : Cn G y cc nL ret rm av q w K := by
  refine Met.ofW (cc := cc) (maxL := nL) (ret := ret) hy rfl ?_
  intro p e s m args below meth c s₁ B hml hv
  obtain ⟨rfl, h2, h3, h4, h5, h6⟩ := hv
  have hts := atoms_spec (ws := Cond.code y cc nL ret :: lw_ok) B.pre
  have hJ := h (G, p, e, rm, s, m, av.toArray, below, meth, c, MQ below (QcN G K) av.toArray s q.1 q.2 (gA G)) rfl ⟨B.exec, B.bytes, hml, findClass_of_methodNamed B.named, fun z hz => hts z (List.mem_cons_of_mem _ hz), h3, h4, h5, h6, rfl⟩ ⟨B.returns, B.notSynchronized, rfl⟩
  have hle := lv_entry av (n := nL) hl
  rw [lg_entry_eq]
  exact hJ s.heap _ [] h2 (by show lv_has _ c.maxLocals _; rw [hml]; exact hle) va_S.rf
def bo (x : Int32) : Prop := x = 0 ∨ x = 1
theorem bo_and {x : Int32} (h : bo x) : x &&& 1 = x := by rcases h with rfl | rfl <;> decide
theorem bo_0 : bo 0 := Or.inl rfl
theorem bo_1 : bo 1 := Or.inr rfl
theorem bo_ite {c : Prop} {_ : Decidable c} {x y : Int32} (h1 : bo x) (h2 : bo y) : bo (if c then x else y) := by split <;> assumption
end
section
section JR
variable {X : XT} {q : Nat × Nat} {pc : Nat} {lv lv2 : List (Nat × Value)} {st : List Value} {w : Mf} {cc : ByteArray} {nL : Nat} {own : String} {rm : Room}
theorem J_sub (ks : List Nat) (h : lv_pick lv ks = lv2) (kk : J X q pc lv2 st w) : J X q pc lv st w := fun H ls locs hw hl hS => kk H ls locs hw (lv_sub hl ks h) hS
theorem J_nmI {x : Int32} (kk : ∀ y : Int32, y = x → J X q pc lv (.int y :: st) w) : J X q pc lv (.int x :: st) w := kk x rfl
theorem J_nmL {x : Int64} (kk : ∀ y : Int64, y = x → J X q pc lv (.long y :: st) w) : J X q pc lv (.long x :: st) w := kk x rfl
theorem J_nmM {ad : Nat → Nat} {m : Mm} (kk : ∀ m2 : Mm, m2 = m → J X q pc lv st (fl ad m2)) : J X q pc lv st (fl ad m) := kk m rfl
theorem J_iload_n (hX : Cx X cc nL own rm) {k : Fin 4} {i : Nat} {x : Int32} (hd : decode cc pc = .ok (.iload_n k, 1)) (hi : (k : Nat) = i) (j : Nat) (hv : lv[j]? = some (i, .int x)) (kk : J X q (pc + 1) lv (.int x :: st) w) : J X q pc lv (st) w := fun H ls locs hw hl hS => lv_iload_n hX.1 hX.2.1 hd hi (lv_at hl j hv) (kk H ls locs hw hl hS)
theorem J_iload (hX : Cx X cc nL own rm) {i : Nat} {x : Int32} (hd : decode cc pc = .ok (.iload i, 2)) (j : Nat) (hv : lv[j]? = some (i, .int x)) (kk : J X q (pc + 2) lv (.int x :: st) w) : J X q pc lv (st) w := fun H ls locs hw hl hS => lv_iload hX.1 hX.2.1 hd (lv_at hl j hv) (kk H ls locs hw hl hS)
theorem J_lload_n (hX : Cx X cc nL own rm) {k : Fin 4} {i : Nat} {x : Int64} (hd : decode cc pc = .ok (.lload_n k, 1)) (hi : (k : Nat) = i) (j : Nat) (hv : lv[j]? = some (i, .long x)) (kk : J X q (pc + 1) lv (.long x :: st) w) : J X q pc lv (st) w := fun H ls locs hw hl hS => lv_lload_n hX.1 hX.2.1 hd hi (lv_at hl j hv) (kk H ls locs hw hl hS)
theorem J_lload (hX : Cx X cc nL own rm) {i : Nat} {x : Int64} (hd : decode cc pc = .ok (.lload i, 2)) (j : Nat) (hv : lv[j]? = some (i, .long x)) (kk : J X q (pc + 2) lv (.long x :: st) w) : J X q pc lv (st) w := fun H ls locs hw hl hS => lv_lload hX.1 hX.2.1 hd (lv_at hl j hv) (kk H ls locs hw hl hS)
theorem J_aload_n (hX : Cx X cc nL own rm) {k : Fin 4} {i : Nat} {x : Nat} (hd : decode cc pc = .ok (.aload_n k, 1)) (hi : (k : Nat) = i) (j : Nat) (hv : lv[j]? = some (i, .ref x)) (kk : J X q (pc + 1) lv (.ref x :: st) w) : J X q pc lv (st) w := fun H ls locs hw hl hS => lv_aload_n hX.1 hX.2.1 hd hi (lv_at hl j hv) (kk H ls locs hw hl hS)
theorem J_aload (hX : Cx X cc nL own rm) {i : Nat} {x : Nat} (hd : decode cc pc = .ok (.aload i, 2)) (j : Nat) (hv : lv[j]? = some (i, .ref x)) (kk : J X q (pc + 2) lv (.ref x :: st) w) : J X q pc lv (st) w := fun H ls locs hw hl hS => lv_aload hX.1 hX.2.1 hd (lv_at hl j hv) (kk H ls locs hw hl hS)
theorem J_istore_n (hX : Cx X cc nL own rm) {k : Fin 4} {i : Nat} {x : Int32} (hd : decode cc pc = .ok (.istore_n k, 1)) (hi : (k : Nat) = i) (hn : i < nL) (hf : (i, Value.int x) :: lv.filter (fun q => !(q.1 == i) && !(q.1 + 1 == i && q.2.category == 2)) = lv2) (kk : J X q (pc + 1) lv2 st w) : J X q pc lv (.int x :: st) w := fun H ls locs hw hl hS => lv_istore_n hX.1 hX.2.1 hd hi hl (by rw [hX.2.2.1]; exact hn) hf (fun ls2 hl2 => kk H ls2 locs hw hl2 hS)
theorem J_istore (hX : Cx X cc nL own rm) {i : Nat} {x : Int32} (hd : decode cc pc = .ok (.istore i, 2)) (hn : i < nL) (hf : (i, Value.int x) :: lv.filter (fun q => !(q.1 == i) && !(q.1 + 1 == i && q.2.category == 2)) = lv2) (kk : J X q (pc + 2) lv2 st w) : J X q pc lv (.int x :: st) w := fun H ls locs hw hl hS => lv_istore hX.1 hX.2.1 hd hl (by rw [hX.2.2.1]; exact hn) hf (fun ls2 hl2 => kk H ls2 locs hw hl2 hS)
theorem J_lstore_n (hX : Cx X cc nL own rm) {k : Fin 4} {i : Nat} {x : Int64} (hd : decode cc pc = .ok (.lstore_n k, 1)) (hi : (k : Nat) = i) (hn : i + 1 < nL) (hf : (i, Value.long x) :: lv.filter (fun q => !(q.1 == i) && (!(q.1 == i + 1) && !(q.1 + 1 == i && q.2.category == 2))) = lv2) (kk : J X q (pc + 1) lv2 st w) : J X q pc lv (.long x :: st) w := fun H ls locs hw hl hS => lv_lstore_n hX.1 hX.2.1 hd hi hl (by rw [hX.2.2.1]; exact hn) hf (fun ls2 hl2 => kk H ls2 locs hw hl2 hS)
theorem J_lstore (hX : Cx X cc nL own rm) {i : Nat} {x : Int64} (hd : decode cc pc = .ok (.lstore i, 2)) (hn : i + 1 < nL) (hf : (i, Value.long x) :: lv.filter (fun q => !(q.1 == i) && (!(q.1 == i + 1) && !(q.1 + 1 == i && q.2.category == 2))) = lv2) (kk : J X q (pc + 2) lv2 st w) : J X q pc lv (.long x :: st) w := fun H ls locs hw hl hS => lv_lstore hX.1 hX.2.1 hd hl (by rw [hX.2.2.1]; exact hn) hf (fun ls2 hl2 => kk H ls2 locs hw hl2 hS)
theorem J_astore_n (hX : Cx X cc nL own rm) {k : Fin 4} {i : Nat} {x : Nat} (hd : decode cc pc = .ok (.astore_n k, 1)) (hi : (k : Nat) = i) (hn : i < nL) (hf : (i, Value.ref x) :: lv.filter (fun q => !(q.1 == i) && !(q.1 + 1 == i && q.2.category == 2)) = lv2) (kk : J X q (pc + 1) lv2 st w) : J X q pc lv (.ref x :: st) w := fun H ls locs hw hl hS => lv_astore_n hX.1 hX.2.1 hd hi hl (by rw [hX.2.2.1]; exact hn) hf (fun ls2 hl2 => kk H ls2 locs hw hl2 hS)
theorem J_astore (hX : Cx X cc nL own rm) {i : Nat} {x : Nat} (hd : decode cc pc = .ok (.astore i, 2)) (hn : i < nL) (hf : (i, Value.ref x) :: lv.filter (fun q => !(q.1 == i) && !(q.1 + 1 == i && q.2.category == 2)) = lv2) (kk : J X q (pc + 2) lv2 st w) : J X q pc lv (.ref x :: st) w := fun H ls locs hw hl hS => lv_astore hX.1 hX.2.1 hd hl (by rw [hX.2.2.1]; exact hn) hf (fun ls2 hl2 => kk H ls2 locs hw hl2 hS)
theorem J_iinc (hX : Cx X cc nL own rm) {i : Nat} {n : Int} {y x : Int32} (hd : decode cc pc = .ok (.iinc i n, 3)) (j : Nat) (hv : lv[j]? = some (i, .int y)) (hx : y + Int32.ofInt n = x) (hn : i < nL) (hf : (i, Value.int x) :: lv.filter (fun q => !(q.1 == i) && !(q.1 + 1 == i && q.2.category == 2)) = lv2) (kk : J X q (pc + 3) lv2 st w) : J X q pc lv st w := fun H ls locs hw hl hS => lv_iinc hX.1 hX.2.1 hd hl hv hx (by rw [hX.2.2.1]; exact hn) hf (fun ls2 hl2 => kk H ls2 locs hw hl2 hS)
theorem J_iconst (hX : Cx X cc nL own rm) {n : Int} {v : Int32} (hd : decode cc pc = .ok (.iconst n, 1)) (hv : Int32.ofInt n = v) (kk : J X q (pc + 1) lv (.int v :: st) w) : J X q pc lv (st) w := fun H ls locs hw hl hS => lv_iconst hX.1 hX.2.1 hd hv (kk H ls locs hw hl hS)
theorem J_bipush (hX : Cx X cc nL own rm) {n : Int} {v : Int32} (hd : decode cc pc = .ok (.bipush n, 2)) (hv : (Int8.ofInt n).toInt32 = v) (kk : J X q (pc + 2) lv (.int v :: st) w) : J X q pc lv (st) w := fun H ls locs hw hl hS => lv_bipush hX.1 hX.2.1 hd hv (kk H ls locs hw hl hS)
theorem J_sipush (hX : Cx X cc nL own rm) {n : Int} {v : Int32} (hd : decode cc pc = .ok (.sipush n, 3)) (hv : (Int16.ofInt n).toInt32 = v) (kk : J X q (pc + 3) lv (.int v :: st) w) : J X q pc lv (st) w := fun H ls locs hw hl hS => lv_sipush hX.1 hX.2.1 hd hv (kk H ls locs hw hl hS)
theorem J_lconst (hX : Cx X cc nL own rm) {n : Fin 2} {v : Int64} (hd : decode cc pc = .ok (.lconst n, 1)) (hv : Int64.ofNat (n : Nat) = v) (kk : J X q (pc + 1) lv (.long v :: st) w) : J X q pc lv (st) w := fun H ls locs hw hl hS => lv_lconst hX.1 hX.2.1 hd hv (kk H ls locs hw hl hS)
theorem J_iadd (hX : Cx X cc nL own rm) {x y : Int32} (hd : decode cc pc = .ok (.iadd, 1)) (kk : J X q (pc + 1) lv (.int (x + y) :: st) w) : J X q pc lv (.int y :: .int x :: st) w := fun H ls locs hw hl hS => lv_iadd hX.1 hX.2.1 hd (kk H ls locs hw hl hS)
theorem J_isub (hX : Cx X cc nL own rm) {x y : Int32} (hd : decode cc pc = .ok (.isub, 1)) (kk : J X q (pc + 1) lv (.int (x - y) :: st) w) : J X q pc lv (.int y :: .int x :: st) w := fun H ls locs hw hl hS => lv_isub hX.1 hX.2.1 hd (kk H ls locs hw hl hS)
theorem J_imul (hX : Cx X cc nL own rm) {x y : Int32} (hd : decode cc pc = .ok (.imul, 1)) (kk : J X q (pc + 1) lv (.int (x * y) :: st) w) : J X q pc lv (.int y :: .int x :: st) w := fun H ls locs hw hl hS => lv_imul hX.1 hX.2.1 hd (kk H ls locs hw hl hS)
theorem J_iand (hX : Cx X cc nL own rm) {x y : Int32} (hd : decode cc pc = .ok (.iand, 1)) (kk : J X q (pc + 1) lv (.int (x &&& y) :: st) w) : J X q pc lv (.int y :: .int x :: st) w := fun H ls locs hw hl hS => lv_iand hX.1 hX.2.1 hd (kk H ls locs hw hl hS)
theorem J_ior (hX : Cx X cc nL own rm) {x y : Int32} (hd : decode cc pc = .ok (.ior, 1)) (kk : J X q (pc + 1) lv (.int (x ||| y) :: st) w) : J X q pc lv (.int y :: .int x :: st) w := fun H ls locs hw hl hS => lv_ior hX.1 hX.2.1 hd (kk H ls locs hw hl hS)
theorem J_ixor (hX : Cx X cc nL own rm) {x y : Int32} (hd : decode cc pc = .ok (.ixor, 1)) (kk : J X q (pc + 1) lv (.int (x ^^^ y) :: st) w) : J X q pc lv (.int y :: .int x :: st) w := fun H ls locs hw hl hS => lv_ixor hX.1 hX.2.1 hd (kk H ls locs hw hl hS)
theorem J_ishl (hX : Cx X cc nL own rm) {x y : Int32} (hd : decode cc pc = .ok (.ishl, 1)) (kk : J X q (pc + 1) lv (.int (x <<< (y &&& 31)) :: st) w) : J X q pc lv (.int y :: .int x :: st) w := fun H ls locs hw hl hS => lv_ishl hX.1 hX.2.1 hd (kk H ls locs hw hl hS)
theorem J_ishr (hX : Cx X cc nL own rm) {x y : Int32} (hd : decode cc pc = .ok (.ishr, 1)) (kk : J X q (pc + 1) lv (.int (x >>> (y &&& 31)) :: st) w) : J X q pc lv (.int y :: .int x :: st) w := fun H ls locs hw hl hS => lv_ishr hX.1 hX.2.1 hd (kk H ls locs hw hl hS)
theorem J_idiv (hX : Cx X cc nL own rm) {x y : Int32} (hd : decode cc pc = .ok (.idiv, 1)) (hne : ¬ y = 0) (kk : J X q (pc + 1) lv (.int (x / y) :: st) w) : J X q pc lv (.int y :: .int x :: st) w := fun H ls locs hw hl hS => lv_idiv hX.1 hX.2.1 hd hne (kk H ls locs hw hl hS)
theorem J_irem (hX : Cx X cc nL own rm) {x y : Int32} (hd : decode cc pc = .ok (.irem, 1)) (hne : ¬ y = 0) (kk : J X q (pc + 1) lv (.int (x - x / y * y) :: st) w) : J X q pc lv (.int y :: .int x :: st) w := fun H ls locs hw hl hS => lv_irem hX.1 hX.2.1 hd hne (kk H ls locs hw hl hS)
theorem J_ineg (hX : Cx X cc nL own rm) {x : Int32} (hd : decode cc pc = .ok (.ineg, 1)) (kk : J X q (pc + 1) lv (.int (-x) :: st) w) : J X q pc lv (.int x :: st) w := fun H ls locs hw hl hS => lv_ineg hX.1 hX.2.1 hd (kk H ls locs hw hl hS)
theorem J_ladd (hX : Cx X cc nL own rm) {x y : Int64} (hd : decode cc pc = .ok (.ladd, 1)) (kk : J X q (pc + 1) lv (.long (x + y) :: st) w) : J X q pc lv (.long y :: .long x :: st) w := fun H ls locs hw hl hS => lv_ladd hX.1 hX.2.1 hd (kk H ls locs hw hl hS)
theorem J_lsub (hX : Cx X cc nL own rm) {x y : Int64} (hd : decode cc pc = .ok (.lsub, 1)) (kk : J X q (pc + 1) lv (.long (x - y) :: st) w) : J X q pc lv (.long y :: .long x :: st) w := fun H ls locs hw hl hS => lv_lsub hX.1 hX.2.1 hd (kk H ls locs hw hl hS)
theorem J_lmul (hX : Cx X cc nL own rm) {x y : Int64} (hd : decode cc pc = .ok (.lmul, 1)) (kk : J X q (pc + 1) lv (.long (x * y) :: st) w) : J X q pc lv (.long y :: .long x :: st) w := fun H ls locs hw hl hS => lv_lmul hX.1 hX.2.1 hd (kk H ls locs hw hl hS)
theorem J_lor (hX : Cx X cc nL own rm) {x y : Int64} (hd : decode cc pc = .ok (.lor, 1)) (kk : J X q (pc + 1) lv (.long (x ||| y) :: st) w) : J X q pc lv (.long y :: .long x :: st) w := fun H ls locs hw hl hS => lv_lor hX.1 hX.2.1 hd (kk H ls locs hw hl hS)
theorem J_ldiv (hX : Cx X cc nL own rm) {x y : Int64} (hd : decode cc pc = .ok (.ldiv, 1)) (hne : ¬ y = 0) (kk : J X q (pc + 1) lv (.long (x / y) :: st) w) : J X q pc lv (.long y :: .long x :: st) w := fun H ls locs hw hl hS => lv_ldiv hX.1 hX.2.1 hd hne (kk H ls locs hw hl hS)
theorem J_lneg (hX : Cx X cc nL own rm) {x : Int64} (hd : decode cc pc = .ok (.lneg, 1)) (kk : J X q (pc + 1) lv (.long (-x) :: st) w) : J X q pc lv (.long x :: st) w := fun H ls locs hw hl hS => lv_lneg hX.1 hX.2.1 hd (kk H ls locs hw hl hS)
theorem J_lshl (hX : Cx X cc nL own rm) {x : Int64} {y : Int32} (hd : decode cc pc = .ok (.lshl, 1)) (kk : J X q (pc + 1) lv (.long (x <<< (y.toInt64 &&& 63)) :: st) w) : J X q pc lv (.int y :: .long x :: st) w := fun H ls locs hw hl hS => lv_lshl hX.1 hX.2.1 hd rfl (kk H ls locs hw hl hS)
theorem J_lshr (hX : Cx X cc nL own rm) {x : Int64} {y : Int32} (hd : decode cc pc = .ok (.lshr, 1)) (kk : J X q (pc + 1) lv (.long (x >>> (y.toInt64 &&& 63)) :: st) w) : J X q pc lv (.int y :: .long x :: st) w := fun H ls locs hw hl hS => lv_lshr hX.1 hX.2.1 hd rfl (kk H ls locs hw hl hS)
theorem J_i2l (hX : Cx X cc nL own rm) {x : Int32} (hd : decode cc pc = .ok (.i2l, 1)) (kk : J X q (pc + 1) lv (.long x.toInt64 :: st) w) : J X q pc lv (.int x :: st) w := fun H ls locs hw hl hS => lv_i2l hX.1 hX.2.1 hd rfl (kk H ls locs hw hl hS)
theorem J_l2i (hX : Cx X cc nL own rm) {x : Int64} (hd : decode cc pc = .ok (.l2i, 1)) (kk : J X q (pc + 1) lv (.int x.toInt32 :: st) w) : J X q pc lv (.long x :: st) w := fun H ls locs hw hl hS => lv_l2i hX.1 hX.2.1 hd rfl (kk H ls locs hw hl hS)
theorem J_lcmp (hX : Cx X cc nL own rm) {x y : Int64} (hd : decode cc pc = .ok (.lcmp, 1)) (kk : J X q (pc + 1) lv (.int (lg_cmp x y) :: st) w) : J X q pc lv (.long y :: .long x :: st) w := fun H ls locs hw hl hS => W.lcmp hX.1 hX.2.1 hd (kk H ls locs hw hl hS)
theorem J_dup (hX : Cx X cc nL own rm) {v : Value} (hd : decode cc pc = .ok (.dup, 1)) (hv : v.category = 1) (kk : J X q (pc + 1) lv (v :: v :: st) w) : J X q pc lv (v :: st) w := fun H ls locs hw hl hS => lv_dup hX.1 hX.2.1 hd hv (kk H ls locs hw hl hS)
theorem J_pop (hX : Cx X cc nL own rm) {v : Value} (hd : decode cc pc = .ok (.pop, 1)) (hv : v.category = 1) (kk : J X q (pc + 1) lv (st) w) : J X q pc lv (v :: st) w := fun H ls locs hw hl hS => lv_pop hX.1 hX.2.1 hd hv (kk H ls locs hw hl hS)
theorem J_dup2_11 (hX : Cx X cc nL own rm) {v u : Value} (hd : decode cc pc = .ok (.dup2, 1)) (hv : v.category = 1) (hu : u.category = 1) (kk : J X q (pc + 1) lv (v :: u :: v :: u :: st) w) : J X q pc lv (v :: u :: st) w := fun H ls locs hw hl hS => lv_dup2_11 hX.1 hX.2.1 hd hv hu (kk H ls locs hw hl hS)
theorem J_goto (hX : Cx X cc nL own rm) {off : Int} {tgt : Nat} (hd : decode cc pc = .ok (.goto off, 3)) (ht : (pc : Int) + off = (tgt : Int)) (kk : J X q tgt lv st w) : J X q pc lv st w := fun H ls locs hw hl hS => lv_goto hX.1 hX.2.1 hd ht (kk H ls locs hw hl hS)
theorem J_if_eq (hX : Cx X cc nL own rm) {x : Int32} {off : Int} {tgt : Nat} (hd : decode cc pc = .ok (.ifCond .eq off, 3)) (ht : (pc : Int) + off = (tgt : Int)) (kt : x = 0 → J X q tgt lv st w) (kf : ¬ x = 0 → J X q (pc + 3) lv st w) : J X q pc lv (.int x :: st) w := fun H ls locs hw hl hS => lv_if_eq hX.1 hX.2.1 hd ht (fun h => kt h H ls locs hw hl hS) (fun h => kf h H ls locs hw hl hS)
theorem J_if_ne (hX : Cx X cc nL own rm) {x : Int32} {off : Int} {tgt : Nat} (hd : decode cc pc = .ok (.ifCond .ne off, 3)) (ht : (pc : Int) + off = (tgt : Int)) (kt : ¬ x = 0 → J X q tgt lv st w) (kf : x = 0 → J X q (pc + 3) lv st w) : J X q pc lv (.int x :: st) w := fun H ls locs hw hl hS => lv_if_ne hX.1 hX.2.1 hd ht (fun h => kt h H ls locs hw hl hS) (fun h => kf h H ls locs hw hl hS)
theorem J_if_lt (hX : Cx X cc nL own rm) {x : Int32} {off : Int} {tgt : Nat} (hd : decode cc pc = .ok (.ifCond .lt off, 3)) (ht : (pc : Int) + off = (tgt : Int)) (kt : x < 0 → J X q tgt lv st w) (kf : ¬ x < 0 → J X q (pc + 3) lv st w) : J X q pc lv (.int x :: st) w := fun H ls locs hw hl hS => lv_if_lt hX.1 hX.2.1 hd ht (fun h => kt h H ls locs hw hl hS) (fun h => kf h H ls locs hw hl hS)
theorem J_if_ge (hX : Cx X cc nL own rm) {x : Int32} {off : Int} {tgt : Nat} (hd : decode cc pc = .ok (.ifCond .ge off, 3)) (ht : (pc : Int) + off = (tgt : Int)) (kt : 0 ≤ x → J X q tgt lv st w) (kf : ¬ 0 ≤ x → J X q (pc + 3) lv st w) : J X q pc lv (.int x :: st) w := fun H ls locs hw hl hS => lv_if_ge hX.1 hX.2.1 hd ht (fun h => kt h H ls locs hw hl hS) (fun h => kf h H ls locs hw hl hS)
theorem J_if_gt (hX : Cx X cc nL own rm) {x : Int32} {off : Int} {tgt : Nat} (hd : decode cc pc = .ok (.ifCond .gt off, 3)) (ht : (pc : Int) + off = (tgt : Int)) (kt : 0 < x → J X q tgt lv st w) (kf : ¬ 0 < x → J X q (pc + 3) lv st w) : J X q pc lv (.int x :: st) w := fun H ls locs hw hl hS => lv_if_gt hX.1 hX.2.1 hd ht (fun h => kt h H ls locs hw hl hS) (fun h => kf h H ls locs hw hl hS)
theorem J_if_le (hX : Cx X cc nL own rm) {x : Int32} {off : Int} {tgt : Nat} (hd : decode cc pc = .ok (.ifCond .le off, 3)) (ht : (pc : Int) + off = (tgt : Int)) (kt : x ≤ 0 → J X q tgt lv st w) (kf : ¬ x ≤ 0 → J X q (pc + 3) lv st w) : J X q pc lv (.int x :: st) w := fun H ls locs hw hl hS => lv_if_le hX.1 hX.2.1 hd ht (fun h => kt h H ls locs hw hl hS) (fun h => kf h H ls locs hw hl hS)
theorem J_icmp_eq (hX : Cx X cc nL own rm) {x y : Int32} {off : Int} {tgt : Nat} (hd : decode cc pc = .ok (.if_icmp .eq off, 3)) (ht : (pc : Int) + off = (tgt : Int)) (kt : x = y → J X q tgt lv st w) (kf : ¬ x = y → J X q (pc + 3) lv st w) : J X q pc lv (.int y :: .int x :: st) w := fun H ls locs hw hl hS => lv_icmp_eq hX.1 hX.2.1 hd ht (fun h => kt h H ls locs hw hl hS) (fun h => kf h H ls locs hw hl hS)
theorem J_icmp_ne (hX : Cx X cc nL own rm) {x y : Int32} {off : Int} {tgt : Nat} (hd : decode cc pc = .ok (.if_icmp .ne off, 3)) (ht : (pc : Int) + off = (tgt : Int)) (kt : ¬ x = y → J X q tgt lv st w) (kf : x = y → J X q (pc + 3) lv st w) : J X q pc lv (.int y :: .int x :: st) w := fun H ls locs hw hl hS => lv_icmp_ne hX.1 hX.2.1 hd ht (fun h => kt h H ls locs hw hl hS) (fun h => kf h H ls locs hw hl hS)
theorem J_icmp_lt (hX : Cx X cc nL own rm) {x y : Int32} {off : Int} {tgt : Nat} (hd : decode cc pc = .ok (.if_icmp .lt off, 3)) (ht : (pc : Int) + off = (tgt : Int)) (kt : x < y → J X q tgt lv st w) (kf : ¬ x < y → J X q (pc + 3) lv st w) : J X q pc lv (.int y :: .int x :: st) w := fun H ls locs hw hl hS => lv_icmp_lt hX.1 hX.2.1 hd ht (fun h => kt h H ls locs hw hl hS) (fun h => kf h H ls locs hw hl hS)
theorem J_icmp_ge (hX : Cx X cc nL own rm) {x y : Int32} {off : Int} {tgt : Nat} (hd : decode cc pc = .ok (.if_icmp .ge off, 3)) (ht : (pc : Int) + off = (tgt : Int)) (kt : y ≤ x → J X q tgt lv st w) (kf : ¬ y ≤ x → J X q (pc + 3) lv st w) : J X q pc lv (.int y :: .int x :: st) w := fun H ls locs hw hl hS => lv_icmp_ge hX.1 hX.2.1 hd ht (fun h => kt h H ls locs hw hl hS) (fun h => kf h H ls locs hw hl hS)
theorem J_icmp_gt (hX : Cx X cc nL own rm) {x y : Int32} {off : Int} {tgt : Nat} (hd : decode cc pc = .ok (.if_icmp .gt off, 3)) (ht : (pc : Int) + off = (tgt : Int)) (kt : y < x → J X q tgt lv st w) (kf : ¬ y < x → J X q (pc + 3) lv st w) : J X q pc lv (.int y :: .int x :: st) w := fun H ls locs hw hl hS => lv_icmp_gt hX.1 hX.2.1 hd ht (fun h => kt h H ls locs hw hl hS) (fun h => kf h H ls locs hw hl hS)
theorem J_icmp_le (hX : Cx X cc nL own rm) {x y : Int32} {off : Int} {tgt : Nat} (hd : decode cc pc = .ok (.if_icmp .le off, 3)) (ht : (pc : Int) + off = (tgt : Int)) (kt : x ≤ y → J X q tgt lv st w) (kf : ¬ x ≤ y → J X q (pc + 3) lv st w) : J X q pc lv (.int y :: .int x :: st) w := fun H ls locs hw hl hS => lv_icmp_le hX.1 hX.2.1 hd ht (fun h => kt h H ls locs hw hl hS) (fun h => kf h H ls locs hw hl hS)
theorem J_tabIn (hX : Cx X cc nL own rm) {dflt lo hi : Int} {offs : Array Int} {n : Nat} {x v : Int32} {off : Int} {tgt : Nat} (hd : decode cc pc = .ok (.tableswitch dflt lo hi offs, n)) (hx : x = v) (h1 : ¬ v.toInt < lo) (h2 : ¬ hi < v.toInt) (ho : offs[(v.toInt - lo).toNat]? = some off) (ht : (pc : Int) + off = (tgt : Int)) (kk : J X q tgt lv st w) : J X q pc lv (.int x :: st) w := by
  subst hx
  exact fun H ls locs hw hl hS => lv_tableIn hX.1 hX.2.1 hd h1 h2 ho ht (kk H ls locs hw hl hS)
theorem J_tabOut (hX : Cx X cc nL own rm) {dflt lo hi : Int} {offs : Array Int} {n : Nat} {x : Int32} {tgt : Nat} (hd : decode cc pc = .ok (.tableswitch dflt lo hi offs, n)) (h : x.toInt < lo ∨ hi < x.toInt) (ht : (pc : Int) + dflt = (tgt : Int)) (kk : J X q tgt lv st w) : J X q pc lv (.int x :: st) w := fun H ls locs hw hl hS => lv_tableOut hX.1 hX.2.1 hd h ht (kk H ls locs hw hl hS)
theorem J_lookIn (hX : Cx X cc nL own rm) {dflt : Int} {ps : Array (Int × Int)} {n : Nat} {x v : Int32} {off : Int} {tgt : Nat} (hd : decode cc pc = .ok (.lookupswitch dflt ps, n)) (hp : (ps.toList.zip (ps.toList.drop 1)).all (fun (a, next) => a.1 < next.1) = true) (hx : x = v) (ho : Op.lookupswitch.offset ps.toList dflt v.toInt = off) (ht : (pc : Int) + off = (tgt : Int)) (kk : J X q tgt lv st w) : J X q pc lv (.int x :: st) w := by
  subst hx
  exact fun H ls locs hw hl hS => lv_lookup hX.1 hX.2.1 hd hp ho ht (kk H ls locs hw hl hS)
theorem J_lookOut (hX : Cx X cc nL own rm) {dflt : Int} {ps : Array (Int × Int)} {n : Nat} {x : Int32} {off : Int} {tgt : Nat} (hd : decode cc pc = .ok (.lookupswitch dflt ps, n)) (hp : (ps.toList.zip (ps.toList.drop 1)).all (fun (a, next) => a.1 < next.1) = true) (ho : Op.lookupswitch.offset ps.toList dflt x.toInt = off) (ht : (pc : Int) + off = (tgt : Int)) (kk : J X q tgt lv st w) : J X q pc lv (.int x :: st) w := fun H ls locs hw hl hS => lv_lookup hX.1 hX.2.1 hd hp ho ht (kk H ls locs hw hl hS)
theorem J_ldc2 (hX : Cx X cc nL own rm) {index : Nat} {v : Int64} (hc : Cond.constantLong own index v ∈ lw_ok) (hd : decode cc pc = .ok (.ldc2_w index, 3)) (kk : J X q (pc + 3) lv (.long v :: st) w) : J X q pc lv st w := fun H ls locs hw hl hS => lv_ldc2 hX.1 hX.2.1 hX.2.2.2.1 (hX.2.2.2.2.1 _ hc) hd (kk H ls locs hw hl hS)
variable {K : Option Value → Mf → Prop}
theorem J_iret (hX : Cx X cc nL own rm) (hR : Rx X (some .int) K q) {v : Int32} (hd : decode cc pc = .ok (.ireturn, 1)) (hK : K (some (.int v)) w) : J X q pc lv [.int v] w := by
  intro H ls locs hw hl hS
  rw [hR.2.2]
  exact W.iret hX.1 hX.2.1 hR.1 (fun t ht _ => ⟨⟨_, w, rfl, hK, by rw [ht]; exact hw⟩, hS.F ht⟩) (fun z hz => hS.2.2 z hz) hd hR.2.1
theorem J_zret (hX : Cx X cc nL own rm) (hR : Rx X (some .boolean) K q) {v : Int32} (hd : decode cc pc = .ok (.ireturn, 1)) (hb : bo v) (hK : K (some (.int v)) w) : J X q pc lv [.int v] w := by
  intro H ls locs hw hl hS
  rw [hR.2.2]
  exact W.zret hX.1 hX.2.1 hR.1 (by show Value.int (v &&& 1) = .int v; rw [bo_and hb]) (fun t ht _ => ⟨⟨_, w, rfl, hK, by rw [ht]; exact hw⟩, hS.F ht⟩) (fun z hz => hS.2.2 z hz) hd hR.2.1
theorem J_lret (hX : Cx X cc nL own rm) (hR : Rx X (some .long) K q) {v : Int64} (hd : decode cc pc = .ok (.lreturn, 1)) (hK : K (some (.long v)) w) : J X q pc lv [.long v] w := by
  intro H ls locs hw hl hS
  rw [hR.2.2]
  exact W.lret hX.1 hX.2.1 hR.1 (fun t ht _ => ⟨⟨_, w, rfl, hK, by rw [ht]; exact hw⟩, hS.F ht⟩) (fun z hz => hS.2.2 z hz) hd hR.2.1
theorem J_vret (hX : Cx X cc nL own rm) (hR : Rx X none K q) (hd : decode cc pc = .ok (.return_, 1)) (hK : K none w) : J X q pc lv [] w := by
  intro H ls locs hw hl hS
  rw [hR.2.2]
  exact W.vret hX.1 hX.2.1 hR.1 (fun t ht _ => ⟨⟨_, w, rfl, hK, by rw [ht]; exact hw⟩, hS.F ht⟩) (fun z hz => hS.2.2 z hz) hd hR.2.1
theorem J_aret (hX : Cx X cc nL own rm) {C : String} (hR : Rx X (some (.object C)) K q) {a : Nat} (hd : decode cc pc = .ok (.areturn, 1)) (hK : K (some (.ref a)) w) : J X q pc lv [.ref a] w := by
  intro H ls locs hw hl hS
  rw [hR.2.2]
  exact W.aret hX.1 hX.2.1 hR.1 (Or.inl ⟨C, rfl⟩) (Or.inr ⟨a, rfl⟩) (fun t ht _ => ⟨⟨_, w, rfl, hK, by rw [ht]; exact hw⟩, hS.F ht⟩) (fun z hz => hS.2.2 z hz) hd hR.2.1
end JR
end
section
theorem u_ws_good {C : String} {T : u_T} {N : Nat} : ∀ z ∈ u_ws C T N, goodWord z = true := by
  intro z hz
  obtain ⟨k, -, rfl⟩ := List.mem_map.mp hz
  unfold u_lay
  split <;> rfl
/-- a field of a class by a place of a constant pool -/
def FOk (own : String) (index ci k : Nat) (fin : Bool) (t : FieldType) : Prop := ∃ (C : String) (T : u_T) (N : Nat) (ty : Nat → FieldType), vwCl[ci]? = some (C, T, N) ∧ (∀ z ∈ u_ws C T N, z ∈ lw_tbl) ∧ (∀ j, j < N → parseFieldDescriptor (T j).2.2.1 = some (ty j)) ∧ (∀ a, a < N → ∀ b, b < N → a ≠ b → (T a).2.1 ≠ (T b).2.1) ∧ k < N ∧ Cond.fieldLink own index (T k).1 (T k).2.1 (T k).2.2.1 ∈ lw_tbl ∧ (T k).2.2.2 = fin ∧ ty k = t ∧ (T k).1 = C
theorem ce_obj {G : GT} {w : Mf} {a c : Nat} (hc : kap a = c) (h : c < 20) : ce G w a = .inr (c, fvs w a) := by
  unfold ce
  rw [if_pos (by omega), hc]
theorem ce_int {G : GT} {w : Mf} {a n : Nat} (hc : kap a = 20) (hn : len a = n) : ce G w a = .inl (G.2.2.2.1 0, n, .inl (w.1.1 a)) := by
  unfold ce
  rw [if_neg (by omega), if_pos (by omega), hc, hn]
theorem ce_boo {G : GT} {w : Mf} {a n : Nat} (hc : kap a = 21) (hn : len a = n) : ce G w a = .inl (G.2.2.2.1 1, n, .inl (w.1.1 a)) := by
  unfold ce
  rw [if_neg (by omega), if_pos (by omega), hc, hn]
theorem ce_lon {G : GT} {w : Mf} {a n : Nat} (hc : kap a = 22) (hn : len a = n) : ce G w a = .inl (G.2.2.2.1 2, n, .inr (.inl (w.1.2 a))) := by
  unfold ce
  rw [if_neg (by omega), if_neg (by omega), if_pos (by omega), hn]
theorem ce_ref {G : GT} {w : Mf} {a n t : Nat} (hc : kap a = 23 + t) (hn : len a = n) : ce G w a = .inl (G.2.2.2.1 (3 + t), n, .inr (.inr (.inr (.inr (fun i => (w.2.1 a i).map w.2.2.2))))) := by
  unfold ce
  rw [if_neg (by omega), if_neg (by omega), if_neg (by omega), hc, hn, show 23 + t - 20 = 3 + t by omega]
theorem lw_okts {X : XT} {cc : ByteArray} {nL : Nat} {own : String} {rm : Room} (hX : Cx X cc nL own rm) {z : Cond} (h : z ∈ lw_tbl) (hg : goodWord z = true) : z.before (xa X) (xs X) = true := hX.2.2.2.2.1 z (lw_in h hg)
section JM
variable {X : XT} {q : Nat × Nat} {pc : Nat} {lv : List (Nat × Value)} {st : List Value} {w : Mf} {cc : ByteArray} {nL : Nat} {own : String} {rm : Room} {index ci k a : Nat} {fin : Bool} {t : FieldType}
theorem J_getG (hX : Cx X cc nL own rm) (F : FOk own index ci k fin t) (hd : decode cc pc = .ok (.getfield index, 3)) (hka : kap a = ci) (hci : ci < 20) {s : Nat} (hs : (fty ci)[k]? = some s) (ha : a < w.2.2.1) {r : Nat} (hr : w.2.2.2 a = r) {v : Value} (hv : fv w a k s = v) (kk : J X q (pc + 3) lv (v :: st) w) : J X q pc lv (.ref r :: st) w := by
  intro H ls locs hw hl hS
  obtain ⟨C, T, N, ty, hc, hin, hty, hnm, hk, hlink, hfin, ht, hC⟩ := F
  subst hr
  have he : (wsO X.1 w)[a]? = some (w.2.2.2 a, .inr (ci, fvs w a)) := by rw [wsO_at ha, ce_obj hka hci]
  exact va_get hX.1 hX.2.1 hX.2.2.2.2.1 (fun z hz => lw_in (hin z hz) (u_ws_good z hz)) hX.2.2.2.1 hX.2.2.2.2.2.1 hw.1 a he hc k hk (lw_okts hX hlink rfl) (fun x h => h) (by rw [fvs_at hka hs, hv]) hd (kk H ls locs hw hl hS)
theorem J_putG (hX : Cx X cc nL own rm) (F : FOk own index ci k false t) (hd : decode cc pc = .ok (.putfield index, 3)) (hka : kap a = ci) (hci : ci < 20) {s : Nat} (hs : (fty ci)[k]? = some s) (ha : a < w.2.2.1) {r : Nat} (hr : w.2.2.2 a = r) {v : Value} (hn : narrow t v = v) (hf : fits t v = true) {w2 : Mf} (h2 : w2.2.2 = w.2.2) (hv : fv w2 a k s = v) (ho : ∀ j u, j ≠ k → fv w2 a j u = fv w a j u) (hb : ∀ b, b ≠ a → ce X.1 w2 b = ce X.1 w b) (kk : J X q (pc + 3) lv st w2) : J X q pc lv (v :: .ref r :: st) w := by
  intro H ls locs hw hl hS
  obtain ⟨C, T, N, ty, hc, hin, hty, hnm, hk, hlink, hfin, ht, hC⟩ := F
  subst hr
  have he : (wsO X.1 w)[a]? = some (w.2.2.2 a, .inr (ci, fvs w a)) := by rw [wsO_at ha, ce_obj hka hci]
  have hset : (wsO X.1 w).set a (w.2.2.2 a, .inr (ci, (fvs w a).set k v)) = wsO X.1 w2 := by
    rw [fvs_set (w' := w2) v (fun u hu => by rw [hka, hs] at hu; cases hu; exact hv) ho, ← ce_obj (G := X.1) hka hci]
    exact wsO_set h2 hb
  have hlk : k < (fvs w a).length := by
    have h3 := fvs_at (w := w) hka hs
    exact (List.getElem?_eq_some_iff.mp h3).1
  refine va_put hX.1 hX.2.1 hX.2.2.2.2.1 (fun z hz => lw_in (hin z hz) (u_ws_good z hz)) ty hty hnm hX.2.2.2.1 hX.2.2.2.2.2.1 hw.1 hw.2 hS a he hc k hk (lw_okts hX hlink rfl) (fun x h => h) hfin (ty := t) (by rw [hty k hk, ht]) hn hf hlk hd (fun H1 locs1 hP hD hS1 => ?_)
  rw [hset] at hP hD
  exact kk H1 ls locs1 ⟨hP, hD⟩ hl hS1
end JM
theorem fl_up {ad : Nat → Nat} {m : Mm} {a k : Nat} {x : Int32} : (fl ad (wI m a k x)).1.1 = upI m.1 a k x := rfl
theorem upI_s (f : Nat → Nat → Int32) (a k : Nat) (x : Int32) : upI f a k x a k = x := by simp [upI]
theorem upI_j (f : Nat → Nat → Int32) (a k : Nat) (x : Int32) {j : Nat} (h : j ≠ k) : upI f a k x a j = f a j := by simp [upI, h]
theorem upI_b (f : Nat → Nat → Int32) (a k : Nat) (x : Int32) {b : Nat} (h : b ≠ a) : upI f a k x b = f b := by funext j; simp [upI, h]
theorem upI_a (f : Nat → Nat → Int32) (a k : Nat) (x : Int32) : upI f a k x a = upd (f a) k x := by funext j; simp [upI, upd]
theorem upL_s (f : Nat → Nat → Int64) (a k : Nat) (x : Int64) : upL f a k x a k = x := by simp [upL]
theorem upL_j (f : Nat → Nat → Int64) (a k : Nat) (x : Int64) {j : Nat} (h : j ≠ k) : upL f a k x a j = f a j := by simp [upL, h]
theorem upL_b (f : Nat → Nat → Int64) (a k : Nat) (x : Int64) {b : Nat} (h : b ≠ a) : upL f a k x b = f b := by funext j; simp [upL, h]
theorem upL_a (f : Nat → Nat → Int64) (a k : Nat) (x : Int64) : upL f a k x a = vp_updL (f a) k x := by funext j; simp [upL, vp_updL]
theorem ce_wI {G : GT} {ad : Nat → Nat} {m : Mm} {a k b : Nat} {x : Int32} (h : b ≠ a) : ce G (fl ad (wI m a k x)) b = ce G (fl ad m) b := ce_fo (upI_b _ _ _ _ h) rfl rfl rfl
theorem ce_wL {G : GT} {ad : Nat → Nat} {m : Mm} {a k b : Nat} {x : Int64} (h : b ≠ a) : ce G (fl ad (wL m a k x)) b = ce G (fl ad m) b := ce_fo rfl (upL_b _ _ _ _ h) rfl rfl
theorem fits_int (x : Int32) : fits .int (.int x) = true := by simp [fits]
theorem fits_boo (x : Int32) (h : bo x) : fits .boolean (.int x) = true := by rcases h with rfl | rfl <;> decide
theorem fits_lon (x : Int64) : fits .long (.long x) = true := by simp [fits]
section JN
variable {X : XT} {q : Nat × Nat} {pc : Nat} {lv : List (Nat × Value)} {st : List Value} {cc : ByteArray} {nL : Nat} {own : String} {rm : Room} {index ci k a n : Nat} {fin : Bool} {t : FieldType} {ad : Nat → Nat} {m : Mm}
theorem J_getI (hX : Cx X cc nL own rm) (F : FOk own index ci k fin t) (hd : decode cc pc = .ok (.getfield index, 3)) (hka : kap a = ci) (hci : ci < 20) (hs : (fty ci)[k]? = some 0) (kk : J X q (pc + 3) lv (.int (m.1 a k) :: st) (fl ad m)) : J X q pc lv (.ref (ad a) :: st) (fl ad m) :=
  J_getG hX F hd hka hci hs (kap_lt hka (by omega)) rfl rfl kk
theorem J_getL (hX : Cx X cc nL own rm) (F : FOk own index ci k fin t) (hd : decode cc pc = .ok (.getfield index, 3)) (hka : kap a = ci) (hci : ci < 20) (hs : (fty ci)[k]? = some 1) (kk : J X q (pc + 3) lv (.long (m.2 a k) :: st) (fl ad m)) : J X q pc lv (.ref (ad a) :: st) (fl ad m) :=
  J_getG hX F hd hka hci hs (kap_lt hka (by omega)) rfl rfl kk
theorem J_getR (hX : Cx X cc nL own rm) (F : FOk own index ci k fin t) (hd : decode cc pc = .ok (.getfield index, 3)) (hka : kap a = ci) (hci : ci < 20) (hs : (fty ci)[k]? = some 2) {b : Nat} (hb : rho a k = b) (kk : J X q (pc + 3) lv (.ref (ad b) :: st) (fl ad m)) : J X q pc lv (.ref (ad a) :: st) (fl ad m) := by
  subst hb
  exact J_getG hX F hd hka hci hs (kap_lt hka (by omega)) rfl rfl kk
theorem J_putI (hX : Cx X cc nL own rm) (F : FOk own index ci k false .int) (hd : decode cc pc = .ok (.putfield index, 3)) (hka : kap a = ci) (hci : ci < 20) (hs : (fty ci)[k]? = some 0) {x : Int32} (kk : J X q (pc + 3) lv st (fl ad (wI m a k x))) : J X q pc lv (.int x :: .ref (ad a) :: st) (fl ad m) := by
  refine J_putG hX F hd hka hci hs (kap_lt hka (by omega)) rfl rfl (fits_int x) (w2 := fl ad (wI m a k x)) rfl ?_ (fun j u hj => ?_) (fun b hb => ce_wI hb) kk
  · show Value.int (upI m.1 a k x a k) = _
    rw [upI_s]
  · unfold fv
    rw [fl_up, upI_j _ _ _ _ hj]
    rfl
theorem J_putZ (hX : Cx X cc nL own rm) (F : FOk own index ci k false .boolean) (hd : decode cc pc = .ok (.putfield index, 3)) (hka : kap a = ci) (hci : ci < 20) (hs : (fty ci)[k]? = some 0) {x : Int32} (hx : bo x) (kk : J X q (pc + 3) lv st (fl ad (wI m a k x))) : J X q pc lv (.int x :: .ref (ad a) :: st) (fl ad m) := by
  refine J_putG hX F hd hka hci hs (kap_lt hka (by omega)) rfl (by show Value.int (x &&& 1) = _; rw [bo_and hx]) (fits_boo x hx) (w2 := fl ad (wI m a k x)) rfl ?_ (fun j u hj => ?_) (fun b hb => ce_wI hb) kk
  · show Value.int (upI m.1 a k x a k) = _
    rw [upI_s]
  · unfold fv
    rw [fl_up, upI_j _ _ _ _ hj]
    rfl
theorem J_putL (hX : Cx X cc nL own rm) (F : FOk own index ci k false .long) (hd : decode cc pc = .ok (.putfield index, 3)) (hka : kap a = ci) (hci : ci < 20) (hs : (fty ci)[k]? = some 1) {x : Int64} (kk : J X q (pc + 3) lv st (fl ad (wL m a k x))) : J X q pc lv (.long x :: .ref (ad a) :: st) (fl ad m) := by
  refine J_putG hX F hd hka hci hs (kap_lt hka (by omega)) rfl rfl (fits_lon x) (w2 := fl ad (wL m a k x)) rfl ?_ (fun j u hj => ?_) (fun b hb => ce_wL hb) kk
  · show Value.long (upL m.2 a k x a k) = _
    rw [upL_s]
  · unfold fv
    show (if u = 0 then _ else if u = 1 then Value.long (upL m.2 a k x a j) else _) = _
    rw [upL_j _ _ _ _ hj]
    rfl
theorem wsO_fl {G : GT} {c : Nat} (hka : kap a = c) (hc : c < 99) : (wsO G (fl ad m))[a]? = some (ad a, ce G (fl ad m) a) := wsO_at (kap_lt hka hc)
theorem J_iald (hX : Cx X cc nL own rm) (hd : decode cc pc = .ok (.iaload, 1)) (hka : kap a = 20) (hn : len a = n) {i : Int32} (hin : vp_in i n) (kk : J X q (pc + 1) lv (.int (m.1 a i.toNatClampNeg) :: st) (fl ad m)) : J X q pc lv (.int i :: .ref (ad a) :: st) (fl ad m) := fun H ls locs hw hl hS =>
  va_iald hX.1 hX.2.1 hX.2.2.2.2.2.1 hw.1 a 0 ((wsO_fl hka (by omega)).trans (by rw [ce_int hka hn]; rfl)) rfl hin hd (kk H ls locs hw hl hS)
theorem J_zald (hX : Cx X cc nL own rm) (hd : decode cc pc = .ok (.baload, 1)) (hka : kap a = 21) (hn : len a = n) {i : Int32} (hin : vp_in i n) (kk : J X q (pc + 1) lv (.int (m.1 a i.toNatClampNeg) :: st) (fl ad m)) : J X q pc lv (.int i :: .ref (ad a) :: st) (fl ad m) := fun H ls locs hw hl hS =>
  va_zald hX.1 hX.2.1 hX.2.2.2.2.2.1 hw.1 a 1 ((wsO_fl hka (by omega)).trans (by rw [ce_boo hka hn]; rfl)) rfl hin hd (kk H ls locs hw hl hS)
theorem J_lald (hX : Cx X cc nL own rm) (hd : decode cc pc = .ok (.laload, 1)) (hka : kap a = 22) (hn : len a = n) {i : Int32} (hin : vp_in i n) (kk : J X q (pc + 1) lv (.long (m.2 a i.toNatClampNeg) :: st) (fl ad m)) : J X q pc lv (.int i :: .ref (ad a) :: st) (fl ad m) := fun H ls locs hw hl hS =>
  va_lald hX.1 hX.2.1 hX.2.2.2.2.2.1 hw.1 a 2 ((wsO_fl hka (by omega)).trans (by rw [ce_lon hka hn]; rfl)) rfl hin hd (kk H ls locs hw hl hS)
theorem J_aald (hX : Cx X cc nL own rm) (hd : decode cc pc = .ok (.aaload, 1)) {u : Nat} (hu : u < 3) (hka : kap a = 23 + u) (hn : len a = n) {i : Int32} (hin : vp_in i n) {b : Nat} (hb : rho a i.toNatClampNeg = b) (kk : J X q (pc + 1) lv (.ref (ad b) :: st) (fl ad m)) : J X q pc lv (.int i :: .ref (ad a) :: st) (fl ad m) := by
  subst hb
  intro H ls locs hw hl hS
  have he := (wsO_fl (G := X.1) (m := m) (ad := ad) hka (by omega)).trans (by rw [ce_ref hka hn])
  rcases (show u = 0 ∨ u = 1 ∨ u = 2 by omega) with rfl | rfl | rfl
  · exact va_aldq hX.1 hX.2.1 hX.2.2.2.2.2.1 hw.1 a 3 he rfl hin hd (kk H ls locs hw hl hS)
  · exact va_aldq hX.1 hX.2.1 hX.2.2.2.2.2.1 hw.1 a 4 he rfl hin hd (kk H ls locs hw hl hS)
  · exact va_aldq hX.1 hX.2.1 hX.2.2.2.2.2.1 hw.1 a 5 he rfl hin hd (kk H ls locs hw hl hS)
theorem J_aaldA (hX : Cx X cc nL own rm) (hd : decode cc pc = .ok (.aaload, 1)) (hka : kap a = 26) (hn : len a = n) {i : Int32} (hin : vp_in i n) {b : Nat} (hb : rho a i.toNatClampNeg = b) (kk : J X q (pc + 1) lv (.ref (ad b) :: st) (fl ad m)) : J X q pc lv (.int i :: .ref (ad a) :: st) (fl ad m) := by
  subst hb
  intro H ls locs hw hl hS
  have he := (wsO_fl (G := X.1) (m := m) (ad := ad) hka (by omega)).trans (by rw [ce_ref (t := 3) hka hn])
  have hlt : i.toNatClampNeg < n := Nat.not_le.mp fun z => hin (Or.inr z)
  exact W.aald (v := .ref (ad (rho a i.toNatClampNeg))) (ty := .array .int) hX.1 hX.2.1 (hw.1 a _ he) ((hX.2.2.2.2.2.1.2 6 (X.1.2.2.2.1 6, .array .int) rfl).1 n _) rfl (fun z => by cases z) (by show ¬ (i < 0 ∨ (arrV _ _ _).slots.size ≤ _); rw [arrV_size]; exact hin) (by show (arrV _ _ _).slots[_]? = _; rw [arrV_read _ _ hlt]; rfl) rfl rfl hd (kk H ls locs hw hl hS)
theorem J_iast (hX : Cx X cc nL own rm) (hd : decode cc pc = .ok (.iastore, 1)) (hka : kap a = 20) (hn : len a = n) {i x : Int32} (hin : vp_in i n) (kk : J X q (pc + 1) lv st (fl ad (wI m a i.toNatClampNeg x))) : J X q pc lv (.int x :: .int i :: .ref (ad a) :: st) (fl ad m) := by
  intro H ls locs hw hl hS
  refine va_iast hX.1 hX.2.1 hX.2.2.2.2.2.1 hw.1 hw.2 hS a 0 ((wsO_fl hka (by omega)).trans (by rw [ce_int hka hn])) rfl hin hd (fun H1 locs1 hP hD hS1 => ?_)
  have hset : (wsO X.1 (fl ad m)).set a (ad a, .inl (X.1.2.2.2.1 0, n, .inl (upd ((fl ad m).1.1 a) i.toNatClampNeg x))) = wsO X.1 (fl ad (wI m a i.toNatClampNeg x)) := by
    rw [← wsO_set (G := X.1) (w := fl ad m) (w' := fl ad (wI m a i.toNatClampNeg x)) (a := a) rfl (fun b hb => ce_wI hb), ce_int hka hn, fl_up, upI_a]
    rfl
  rw [hset] at hP hD
  exact kk H1 ls locs1 ⟨hP, hD⟩ hl hS1
theorem J_zast (hX : Cx X cc nL own rm) (hd : decode cc pc = .ok (.bastore, 1)) (hka : kap a = 21) (hn : len a = n) {i x : Int32} (hin : vp_in i n) (hx : bo x) (kk : J X q (pc + 1) lv st (fl ad (wI m a i.toNatClampNeg x))) : J X q pc lv (.int x :: .int i :: .ref (ad a) :: st) (fl ad m) := by
  intro H ls locs hw hl hS
  refine va_zast hX.1 hX.2.1 hX.2.2.2.2.2.1 hw.1 hw.2 hS a 1 ((wsO_fl hka (by omega)).trans (by rw [ce_boo hka hn])) rfl hin hd (fun H1 locs1 hP hD hS1 => ?_)
  have hset : (wsO X.1 (fl ad m)).set a (ad a, .inl (X.1.2.2.2.1 1, n, .inl (upd ((fl ad m).1.1 a) i.toNatClampNeg (vp_nar .boolean x)))) = wsO X.1 (fl ad (wI m a i.toNatClampNeg x)) := by
    rw [← wsO_set (G := X.1) (w := fl ad m) (w' := fl ad (wI m a i.toNatClampNeg x)) (a := a) rfl (fun b hb => ce_wI hb), ce_boo hka hn, fl_up, upI_a, show vp_nar .boolean x = x from bo_and hx]
    rfl
  rw [hset] at hP hD
  exact kk H1 ls locs1 ⟨hP, hD⟩ hl hS1
theorem J_last (hX : Cx X cc nL own rm) (hd : decode cc pc = .ok (.lastore, 1)) (hka : kap a = 22) (hn : len a = n) {i : Int32} {x : Int64} (hin : vp_in i n) (kk : J X q (pc + 1) lv st (fl ad (wL m a i.toNatClampNeg x))) : J X q pc lv (.long x :: .int i :: .ref (ad a) :: st) (fl ad m) := by
  intro H ls locs hw hl hS
  refine va_last hX.1 hX.2.1 hX.2.2.2.2.2.1 hw.1 hw.2 hS a 2 ((wsO_fl hka (by omega)).trans (by rw [ce_lon hka hn])) rfl hin hd (fun H1 locs1 hP hD hS1 => ?_)
  have hset : (wsO X.1 (fl ad m)).set a (ad a, .inl (X.1.2.2.2.1 2, n, .inr (.inl (vp_updL ((fl ad m).1.2 a) i.toNatClampNeg x)))) = wsO X.1 (fl ad (wL m a i.toNatClampNeg x)) := by
    rw [← wsO_set (G := X.1) (w := fl ad m) (w' := fl ad (wL m a i.toNatClampNeg x)) (a := a) rfl (fun b hb => ce_wL hb), ce_lon hka hn]
    show _ = (wsO X.1 (fl ad m)).set a (_, .inl (_, _, .inr (.inl (upL m.2 a i.toNatClampNeg x a))))
    rw [upL_a]
    rfl
  rw [hset] at hP hD
  exact kk H1 ls locs1 ⟨hP, hD⟩ hl hS1
theorem J_alen (hX : Cx X cc nL own rm) (hd : decode cc pc = .ok (.arraylength, 1)) {c : Nat} (hka : kap a = c) (hc : c = 20 ∨ c = 21 ∨ c = 22) (hn : len a = n) {v : Int32} (hv : Int32.ofNat n = v) (kk : J X q (pc + 1) lv (.int v :: st) (fl ad m)) : J X q pc lv (.ref (ad a) :: st) (fl ad m) := by
  intro H ls locs hw hl hS
  rcases hc with rfl | rfl | rfl
  · exact va_alen hX.1 hX.2.1 hX.2.2.2.2.2.1 hw.1 a 0 ((wsO_fl hka (by omega)).trans (by rw [ce_int hka hn])) rfl hv hd (kk H ls locs hw hl hS)
  · exact va_alen hX.1 hX.2.1 hX.2.2.2.2.2.1 hw.1 a 1 ((wsO_fl hka (by omega)).trans (by rw [ce_boo hka hn])) rfl hv hd (kk H ls locs hw hl hS)
  · exact va_alen hX.1 hX.2.1 hX.2.2.2.2.2.1 hw.1 a 2 ((wsO_fl hka (by omega)).trans (by rw [ce_lon hka hn])) rfl hv hd (kk H ls locs hw hl hS)
end JN
section JS
variable {X : XT} {q : Nat × Nat} {pc : Nat} {lv : List (Nat × Value)} {st : List Value} {w : Mf} {cc : ByteArray} {nL : Nat} {own : String} {rm : Room} {index k : Nat}
theorem J_gets (hX : Cx X cc nL own rm) (hd : decode cc pc = .ok (.getstatic index, 3)) (hk : k < 4) (hl0 : Cond.fieldLink own index (szC k).1 (szC k).2 "[I" ∈ lw_tbl) (kk : J X q (pc + 3) lv (.ref (X.1.2.2.2.2 k) :: st) w) : J X q pc lv st w := fun H ls locs hw hl hS =>
  va_gets hX.1 hX.2.1 (hX.2.2.2.2.2.2.1 k hk).1 hS hX.2.2.2.1 (lw_okts hX hl0 rfl) (fun x h => h) hd (kk H ls locs hw hl hS)
theorem J_getsN (hX : Cx X cc nL own rm) (hd : decode cc pc = .ok (.getstatic index, 3)) (hk : k < 4) {host : String} (hl0 : Cond.fieldLinkNest own index (szC k).1 (szC k).2 "[I" host ∈ lw_tbl) (kk : J X q (pc + 3) lv (.ref (X.1.2.2.2.2 k) :: st) w) : J X q pc lv st w := fun H ls locs hw hl hS =>
  va_getsN hX.1 hX.2.1 (hX.2.2.2.2.2.2.1 k hk).1 hS hX.2.2.2.1 (va_Nw.use rfl (hX.2.2.2.2.2.2.2.2.1.1 _ (List.mem_filter.mpr ⟨hl0, rfl⟩))) (fun x h => h) hd (kk H ls locs hw hl hS)
theorem J_sald (hX : Cx X cc nL own rm) (hd : decode cc pc = .ok (.iaload, 1)) (hk : k < 4) {i : Int32} (hin : vp_in i 4) (kk : J X q (pc + 1) lv (.int (szv k i.toNatClampNeg) :: st) w) : J X q pc lv (.int i :: .ref (X.1.2.2.2.2 k) :: st) w := fun H ls locs hw hl hS =>
  va_ti hX.1 hX.2.1 (hX.2.2.2.2.2.2.1 k hk).2 hS hin rfl hd (kk H ls locs hw hl hS)
end JS
end
section
def MIk (y : MethodName) (cy : ByteArray) (nLy : Nat) (ret : Option FieldType) (n : Nat) : Prop := Cond.code y cy nLy ret ∈ lw_tbl ∧ Cond.initialized y.cls ∈ lw_tbl ∧ (y.cls ≠ "java/lang/invoke/MethodHandle" ∧ y.cls ≠ "java/lang/invoke/VarHandle" ∧ (parseMethodDescriptor y.desc).map (fun d => d.parameters.length) = some n)
/-- an instance method: chosen by itself -/
def MVk (y : MethodName) (cy : ByteArray) (nLy : Nat) (ret : Option FieldType) (n ci : Nat) : Prop := MIk y cy nLy ret n ∧ Cond.instanceMethod y ∈ lw_tbl ∧ Cond.selects y.cls y y ∈ lw_tbl ∧ ∃ (T : u_T) (N : Nat), vwCl[ci]? = some (y.cls, T, N)
def MSk (y : MethodName) (cy : ByteArray) (nLy : Nat) (ret : Option FieldType) (n : Nat) : Prop := MIk y cy nLy ret n ∧ Cond.static y ∈ lw_tbl
/-- the callee's room in the caller's -/
def Rok (a b : Room) (nLy : Nat) : Prop := a.frames + 1 ≤ b.frames ∧ 8 + (nLy + 11) + a.locals ≤ b.locals
section JC
variable {X : XT} {q : Nat × Nat} {pc : Nat} {lv : List (Nat × Value)} {st st0 : List Value} {w : Mf} {cc : ByteArray} {nL : Nat} {own : String} {rm : Room} {K1 : Option Value → Mf → Prop}
theorem J_run {mc ms : Nat} {av : Array Value} (hr : ∀ (H : Heap) (ls : Array Slot) (locs : List Loc), wd X.1 w H → lv_has ls (xc X).maxLocals lv → va_S (gA X.1) (xs X).heap H locs → va_Run (xp X) X.1.1 (xe X) (xR X) (xs X) (xm X) (xa X) (xb X) (xh X) (xc X) H locs q.1 q.2 mc ms (F0 (xm X) pc ls st0) st (QcN X.1 K1 av) (gA X.1))
    (kk : ∀ (v : Option Value) (w2 : Mf), K1 v w2 → J X (q.1 + mc, q.2 + ms) (pc + 3) lv (v.toList ++ st) w2) : J X q pc lv st0 w := by
  intro H ls locs hw hl hS T hT Xs
  obtain ⟨v, st₀, t, T2, L, h0, X2, hL, e1, e2, ⟨⟨v2, w2, hv, hK, hw2⟩, hz, hk⟩, go⟩ := hr H ls locs hw hl hS T hT Xs
  cases hv
  rw [h0] at hz hk
  have hS2 : va_S (gA X.1) (xs X).heap T2.heap (locs ++ L) := by
    refine ⟨Nat.le_trans hS.1 (by rw [e1]; exact hz), fun z h1 h2 => ?_, fun z hzz => ?_⟩
    · rw [e1, hk z (Nat.lt_of_lt_of_le h1 hS.1) h2]
      exact hS.2.1 z h1 h2
    · rcases List.mem_append.mp hzz with h | h
      · exact hS.2.2 z h
      · exact hL z h
  obtain ⟨t2, a1, b1⟩ := kk v w2 hK T2.heap ls (locs ++ L) (by rw [e1]; exact hw2) hl hS2 T2 rfl X2
  exact ⟨t2, go t2 a1, b1⟩
theorem pcn_of {H : Heap} {locs : List Loc} {av : List Value} {nLx : Nat} (hX : Cx X cc nLx own rm) (hw : wd X.1 w H) (hS : va_S (gA X.1) (xs X).heap H locs) : ∀ U : State, U.heap = H → (xs X).WarmedH U.vm → PcN X.1 av w av.toArray U := by
  intro U hU hW
  obtain ⟨h1, h2, h3, h4, h5, h6, h7, h8, h9, h10⟩ := hX
  refine ⟨rfl, by rw [hU]; exact hw, va_K.moved hW.alike h6, ?_, ?_, TB.warm hW h9⟩
  · rw [hU]
    exact (SZ.moved hW.alike h7).kept hS.2.1
  · rw [hU]
    exact Nat.le_trans h8 hS.1
theorem cb_of (hX : Cx X cc nL own rm) {y : MethodName} {cy : ByteArray} {nLy n idx mc ms : Nat} {ret : Option FieldType} {rmy : Room} (hM : MIk y cy nLy ret n) (hl : Cond.methodLink own idx y ∈ lw_tbl) (hc : rmy.cells = mc) (hs : rmy.slots = ms) (hr : Rok rmy rm nLy) :
    CallB (xR X) (xs X) (xa X) own idx y cy nLy ret (Cond.code y cy nLy ret :: lw_ok) rmy mc ms n := by
  have hg : GoodIn lw_ok (Cond.code y cy nLy ret :: lw_ok) := by
    intro z hz
    rcases List.mem_cons.mp hz with rfl | hz
    · exact lw_good _ (lw_in hM.1 rfl)
    · exact lw_good z hz
  refine callB_of n hX.2.2.2.2.1 hg rfl hc hs (lw_okts hX hM.2.1 rfl) (lw_okts hX hl rfl) hM.2.2 ?_
  rw [hX.2.2.2.2.2.2.2.2.2]
  exact hr
theorem J_cV (hX : Cx X cc nL own rm) {a ci mc ms : Nat} {y : MethodName} {cy : ByteArray} {nLy n idx : Nat} {ret : Option FieldType} {rmy : Room} {As : List Value} (hC : Cn X.1 y cy nLy ret rmy (.ref (w.2.2.2 a) :: As) (mc, ms) w K1) (hM : MVk y cy nLy ret n ci) (hl : Cond.methodLink own idx y ∈ lw_tbl) (hd : decode cc pc = .ok (.invokevirtual idx, 3)) (hka : kap a = ci) (hci : ci < 20) (ha : a < w.2.2.1)
    (hc : rmy.cells = mc ∧ rmy.slots = ms) (hr : Rok rmy rm nLy) (hq : q.1 + mc ≤ rm.cells ∧ q.2 + ms ≤ rm.slots) (hn : As.length = n) (hst : st0 = As.reverse ++ .ref (w.2.2.2 a) :: st) (hW : (st.map fun v => v.category).sum ≤ 8)
    (kk : ∀ (v : Option Value) (w2 : Mf), K1 v w2 → J X (q.1 + mc, q.2 + ms) (pc + 3) lv (v.toList ++ st) w2) : J X q pc lv st0 w := by
  refine J_run (av := (Value.ref (w.2.2.2 a) :: As).toArray) (fun H ls locs hw hl2 hS => ?_) kk
  subst hst
  obtain ⟨hM1, hM2, hM3, T, N, hcl⟩ := hM
  exact va_runV (rest := st) ⟨hX.1, hX.2.1, rfl, hX.2.2.2.1, hX.2.2.2.2.1⟩ hC ⟨cb_of hX hM1 hl hc.1 hc.2 hr, lw_okts hX hM2 rfl, lw_okts hX hM3 rfl⟩
    ⟨PcN.blind, va_recv hX.2.2.2.2.2.1 hw.1 hcl ((wsO_at ha).trans (by rw [ce_obj hka hci])), pcn_of hX hw hS⟩ rfl hn hl2.1 rfl (lv_room hW) hd (by rw [hX.2.2.2.2.2.2.2.2.2]; exact hq)
theorem J_cS (hX : Cx X cc nL own rm) {mc ms : Nat} {y : MethodName} {cy : ByteArray} {nLy n idx : Nat} {ret : Option FieldType} {rmy : Room} {As : List Value} (hC : Cn X.1 y cy nLy ret rmy As (mc, ms) w K1) (hM : MSk y cy nLy ret n) (hl : Cond.methodLink own idx y ∈ lw_tbl) (hd : decode cc pc = .ok (.invokestatic idx, 3))
    (hc : rmy.cells = mc ∧ rmy.slots = ms) (hr : Rok rmy rm nLy) (hq : q.1 + mc ≤ rm.cells ∧ q.2 + ms ≤ rm.slots) (hn : As.length = n) (hst : st0 = As.reverse ++ st) (hW : (st.map fun v => v.category).sum ≤ 8)
    (kk : ∀ (v : Option Value) (w2 : Mf), K1 v w2 → J X (q.1 + mc, q.2 + ms) (pc + 3) lv (v.toList ++ st) w2) : J X q pc lv st0 w := by
  refine J_run (av := As.toArray) (fun H ls locs hw hl2 hS => ?_) kk
  subst hst
  exact va_runS (rest := st) ⟨hX.1, hX.2.1, rfl, hX.2.2.2.1, hX.2.2.2.2.1⟩ hC ⟨cb_of hX hM.1 hl hc.1 hc.2 hr, lw_okts hX hM.2 rfl⟩
    ⟨PcN.blind, pcn_of hX hw hS⟩ rfl hn hl2.1 rfl (lv_room hW) hd (by rw [hX.2.2.2.2.2.2.2.2.2]; exact hq)
theorem J_cSN (hX : Cx X cc nL own rm) {mc ms : Nat} {y : MethodName} {cy : ByteArray} {nLy n idx : Nat} {ret : Option FieldType} {rmy : Room} {As : List Value} {host : String} (hC : Cn X.1 y cy nLy ret rmy As (mc, ms) w K1) (hM : MSk y cy nLy ret n) (hl : Cond.methodLinkNest own idx y host ∈ lw_tbl) (hd : decode cc pc = .ok (.invokestatic idx, 3))
    (hc : rmy.cells = mc ∧ rmy.slots = ms) (hr : Rok rmy rm nLy) (hq : q.1 + mc ≤ rm.cells ∧ q.2 + ms ≤ rm.slots) (hn : As.length = n) (hst : st0 = As.reverse ++ st) (hW : (st.map fun v => v.category).sum ≤ 8)
    (kk : ∀ (v : Option Value) (w2 : Mf), K1 v w2 → J X (q.1 + mc, q.2 + ms) (pc + 3) lv (v.toList ++ st) w2) : J X q pc lv st0 w := by
  refine J_run (av := As.toArray) (fun H ls locs hw hl2 hS => ?_) kk
  subst hst
  have hg : GoodIn lw_ok (Cond.code y cy nLy ret :: lw_ok) := by
    intro z hz
    rcases List.mem_cons.mp hz with rfl | hz
    · exact lw_good _ (lw_in hM.1.1 rfl)
    · exact lw_good z hz
  exact va_runSN (rest := st) ⟨hX.1, hX.2.1, rfl, hX.2.2.2.1, hX.2.2.2.2.1⟩ hC ⟨va_cnB n hX.2.2.2.2.1 hg rfl hc.1 hc.2 (hX.2.2.2.2.2.2.2.2.1.1 _ (List.mem_filter.mpr ⟨hl, rfl⟩)) (lw_okts hX hM.1.2.1 rfl) hM.1.2.2 (by rw [hX.2.2.2.2.2.2.2.2.2]; exact hr), lw_okts hX hM.2 rfl, trivial⟩
    ⟨PcN.blind, pcn_of hX hw hS⟩ rfl hn hl2.1 rfl (lv_room hW) hd (by rw [hX.2.2.2.2.2.2.2.2.2]; exact hq)
end JC
section JD
variable {X : XT} {pc : Nat} {lv : List (Nat × Value)} {st st0 : List Value} {m : Mm} {ad : Nat → Nat} {cc : ByteArray} {nL : Nat} {own : String} {rm : Room} {K1 : Option Value → Mf → Prop}
/-- the room of a method that makes nothing -/
abbrev rmN (f n : Nat) : Room := { frames := f, cells := 0, slots := 0, locals := n }
theorem J_callV {f0 n0 f1 n1 : Nat} (hX : Cx X cc nL own (rmN f0 n0)) {a ci : Nat} {y : MethodName} {cy : ByteArray} {nLy n idx : Nat} {ret : Option FieldType} (hM : MVk y cy nLy ret n ci) (hl : Cond.methodLink own idx y ∈ lw_tbl) (hd : decode cc pc = .ok (.invokevirtual idx, 3)) (hka : kap a = ci) (hci : ci < 20) (As : List Value)
    (hr : Rok (rmN f1 n1) (rmN f0 n0) nLy) (hn : As.length = n) (hst : st0 = As.reverse ++ .ref (ad a) :: st) (hW : (st.map fun v => v.category).sum ≤ 8) (hC : Cn X.1 y cy nLy ret (rmN f1 n1) (.ref (ad a) :: As) (0, 0) (fl ad m) K1)
    (kk : ∀ (v : Option Value) (w2 : Mf), K1 v w2 → J X (0, 0) (pc + 3) lv (v.toList ++ st) w2) : J X (0, 0) pc lv st0 (fl ad m) :=
  J_cV hX hC hM hl hd hka hci (kap_lt hka (by omega)) ⟨rfl, rfl⟩ hr ⟨Nat.le_refl _, Nat.le_refl _⟩ hn hst hW kk
theorem J_callS {f0 n0 f1 n1 : Nat} (hX : Cx X cc nL own (rmN f0 n0)) {y : MethodName} {cy : ByteArray} {nLy n idx : Nat} {ret : Option FieldType} (hM : MSk y cy nLy ret n) (hl : Cond.methodLink own idx y ∈ lw_tbl) (hd : decode cc pc = .ok (.invokestatic idx, 3)) (As : List Value)
    (hr : Rok (rmN f1 n1) (rmN f0 n0) nLy) (hn : As.length = n) (hst : st0 = As.reverse ++ st) (hW : (st.map fun v => v.category).sum ≤ 8) (hC : Cn X.1 y cy nLy ret (rmN f1 n1) As (0, 0) (fl ad m) K1)
    (kk : ∀ (v : Option Value) (w2 : Mf), K1 v w2 → J X (0, 0) (pc + 3) lv (v.toList ++ st) w2) : J X (0, 0) pc lv st0 (fl ad m) :=
  J_cS hX hC hM hl hd ⟨rfl, rfl⟩ hr ⟨Nat.le_refl _, Nat.le_refl _⟩ hn hst hW kk
theorem J_callSN {f0 n0 f1 n1 : Nat} (hX : Cx X cc nL own (rmN f0 n0)) {y : MethodName} {cy : ByteArray} {nLy n idx : Nat} {ret : Option FieldType} {host : String} (hM : MSk y cy nLy ret n) (hl : Cond.methodLinkNest own idx y host ∈ lw_tbl) (hd : decode cc pc = .ok (.invokestatic idx, 3)) (As : List Value)
    (hr : Rok (rmN f1 n1) (rmN f0 n0) nLy) (hn : As.length = n) (hst : st0 = As.reverse ++ st) (hW : (st.map fun v => v.category).sum ≤ 8) (hC : Cn X.1 y cy nLy ret (rmN f1 n1) As (0, 0) (fl ad m) K1)
    (kk : ∀ (v : Option Value) (w2 : Mf), K1 v w2 → J X (0, 0) (pc + 3) lv (v.toList ++ st) w2) : J X (0, 0) pc lv st0 (fl ad m) :=
  J_cSN hX hC hM hl hd ⟨rfl, rfl⟩ hr ⟨Nat.le_refl _, Nat.le_refl _⟩ hn hst hW kk
end JD
end
section
theorem mt_0 {z : Cond} (h : z ∈ k2_sels lw_privs) : z ∈ lw_tbl := List.mem_append_left _ h
theorem mt_1 {z : Cond} (h : z ∈ tables_1_1) : z ∈ lw_tbl := List.mem_append_right _ (List.mem_append_left _ h)
theorem mt_2 {z : Cond} (h : z ∈ tables_1_2) : z ∈ lw_tbl := List.mem_append_right _ (List.mem_append_right _ (List.mem_append_left _ h))
theorem mt_3 {z : Cond} (h : z ∈ tables_1_3) : z ∈ lw_tbl := List.mem_append_right _ (List.mem_append_right _ (List.mem_append_right _ (List.mem_append_left _ h)))
theorem mt_4 {z : Cond} (h : z ∈ tables_1_4) : z ∈ lw_tbl := List.mem_append_right _ (List.mem_append_right _ (List.mem_append_right _ (List.mem_append_right _ (List.mem_append_left _ h))))
theorem mt_5 {z : Cond} (h : z ∈ tables_1_5) : z ∈ lw_tbl := List.mem_append_right _ (List.mem_append_right _ (List.mem_append_right _ (List.mem_append_right _ (List.mem_append_right _ (List.mem_append_left _ h)))))
theorem mt_6 {z : Cond} (h : z ∈ tables_1_6) : z ∈ lw_tbl := List.mem_append_right _ (List.mem_append_right _ (List.mem_append_right _ (List.mem_append_right _ (List.mem_append_right _ (List.mem_append_right _ (List.mem_append_left _ h))))))
theorem mt_7 {z : Cond} (h : z ∈ tables_1_7) : z ∈ lw_tbl := List.mem_append_right _ (List.mem_append_right _ (List.mem_append_right _ (List.mem_append_right _ (List.mem_append_right _ (List.mem_append_right _ (List.mem_append_right _ (List.mem_append_left _ h)))))))
theorem mt_8 {z : Cond} (h : z ∈ tables_1_8) : z ∈ lw_tbl := List.mem_append_right _ (List.mem_append_right _ (List.mem_append_right _ (List.mem_append_right _ (List.mem_append_right _ (List.mem_append_right _ (List.mem_append_right _ (List.mem_append_right _ (List.mem_append_left _ h))))))))
theorem mt_9 {z : Cond} (h : z ∈ tables_1_9) : z ∈ lw_tbl := List.mem_append_right _ (List.mem_append_right _ (List.mem_append_right _ (List.mem_append_right _ (List.mem_append_right _ (List.mem_append_right _ (List.mem_append_right _ (List.mem_append_right _ (List.mem_append_right _ (h)))))))))
theorem kf_RX11_10 : FOk RX11 10 11 0 true (tyX11 0) := ⟨RX11, TX11, 16, tyX11, rfl, inX11, tyX11_ok, nmX11, by decide, mt_2 (List.mem_of_getElem? (i := 218) rfl), rfl, rfl, rfl⟩
theorem kf_RX11_16 : FOk RX11 16 11 1 true (tyX11 1) := ⟨RX11, TX11, 16, tyX11, rfl, inX11, tyX11_ok, nmX11, by decide, mt_2 (List.mem_of_getElem? (i := 219) rfl), rfl, rfl, rfl⟩
theorem kf_RX11_19 : FOk RX11 19 11 2 true (tyX11 2) := ⟨RX11, TX11, 16, tyX11, rfl, inX11, tyX11_ok, nmX11, by decide, mt_2 (List.mem_of_getElem? (i := 220) rfl), rfl, rfl, rfl⟩
theorem kf_RX11_23 : FOk RX11 23 11 3 true (tyX11 3) := ⟨RX11, TX11, 16, tyX11, rfl, inX11, tyX11_ok, nmX11, by decide, mt_2 (List.mem_of_getElem? (i := 221) rfl), rfl, rfl, rfl⟩
theorem kf_RX11_30 : FOk RX11 30 11 4 true (tyX11 4) := ⟨RX11, TX11, 16, tyX11, rfl, inX11, tyX11_ok, nmX11, by decide, mt_2 (List.mem_of_getElem? (i := 222) rfl), rfl, rfl, rfl⟩
theorem kf_RX11_34 : FOk RX11 34 11 5 true (tyX11 5) := ⟨RX11, TX11, 16, tyX11, rfl, inX11, tyX11_ok, nmX11, by decide, mt_2 (List.mem_of_getElem? (i := 223) rfl), rfl, rfl, rfl⟩
theorem kf_RX11_41 : FOk RX11 41 11 6 true (tyX11 6) := ⟨RX11, TX11, 16, tyX11, rfl, inX11, tyX11_ok, nmX11, by decide, mt_2 (List.mem_of_getElem? (i := 224) rfl), rfl, rfl, rfl⟩
theorem kf_RX11_48 : FOk RX11 48 11 7 true (tyX11 7) := ⟨RX11, TX11, 16, tyX11, rfl, inX11, tyX11_ok, nmX11, by decide, mt_2 (List.mem_of_getElem? (i := 225) rfl), rfl, rfl, rfl⟩
theorem kf_RX11_55 : FOk RX11 55 11 8 true (tyX11 8) := ⟨RX11, TX11, 16, tyX11, rfl, inX11, tyX11_ok, nmX11, by decide, mt_2 (List.mem_of_getElem? (i := 226) rfl), rfl, rfl, rfl⟩
theorem kf_RX11_59 : FOk RX11 59 4 4 true (tyX4 4) := ⟨RX4, TX4, 8, tyX4, rfl, inX4, tyX4_ok, nmX4, by decide, mt_2 (List.mem_of_getElem? (i := 194) rfl), rfl, rfl, rfl⟩
theorem kf_RX11_63 : FOk RX11 63 11 9 true (tyX11 9) := ⟨RX11, TX11, 16, tyX11, rfl, inX11, tyX11_ok, nmX11, by decide, mt_2 (List.mem_of_getElem? (i := 227) rfl), rfl, rfl, rfl⟩
theorem kf_RX11_64 : FOk RX11 64 4 5 true (tyX4 5) := ⟨RX4, TX4, 8, tyX4, rfl, inX4, tyX4_ok, nmX4, by decide, mt_2 (List.mem_of_getElem? (i := 196) rfl), rfl, rfl, rfl⟩
theorem kf_RX11_68 : FOk RX11 68 11 10 true (tyX11 10) := ⟨RX11, TX11, 16, tyX11, rfl, inX11, tyX11_ok, nmX11, by decide, mt_2 (List.mem_of_getElem? (i := 228) rfl), rfl, rfl, rfl⟩
theorem kf_RX11_69 : FOk RX11 69 4 6 true (tyX4 6) := ⟨RX4, TX4, 8, tyX4, rfl, inX4, tyX4_ok, nmX4, by decide, mt_2 (List.mem_of_getElem? (i := 198) rfl), rfl, rfl, rfl⟩
theorem kf_RX11_73 : FOk RX11 73 11 11 true (tyX11 11) := ⟨RX11, TX11, 16, tyX11, rfl, inX11, tyX11_ok, nmX11, by decide, mt_2 (List.mem_of_getElem? (i := 229) rfl), rfl, rfl, rfl⟩
theorem kf_RX11_74 : FOk RX11 74 4 2 true (tyX4 2) := ⟨RX4, TX4, 8, tyX4, rfl, inX4, tyX4_ok, nmX4, by decide, mt_2 (List.mem_of_getElem? (i := 190) rfl), rfl, rfl, rfl⟩
theorem kf_RX11_77 : FOk RX11 77 11 12 true (tyX11 12) := ⟨RX11, TX11, 16, tyX11, rfl, inX11, tyX11_ok, nmX11, by decide, mt_2 (List.mem_of_getElem? (i := 230) rfl), rfl, rfl, rfl⟩
theorem kf_RX11_78 : FOk RX11 78 4 3 true (tyX4 3) := ⟨RX4, TX4, 8, tyX4, rfl, inX4, tyX4_ok, nmX4, by decide, mt_2 (List.mem_of_getElem? (i := 192) rfl), rfl, rfl, rfl⟩
theorem kf_RX11_81 : FOk RX11 81 11 13 true (tyX11 13) := ⟨RX11, TX11, 16, tyX11, rfl, inX11, tyX11_ok, nmX11, by decide, mt_2 (List.mem_of_getElem? (i := 231) rfl), rfl, rfl, rfl⟩
theorem kf_RX11_82 : FOk RX11 82 11 14 false (tyX11 14) := ⟨RX11, TX11, 16, tyX11, rfl, inX11, tyX11_ok, nmX11, by decide, mt_2 (List.mem_of_getElem? (i := 232) rfl), rfl, rfl, rfl⟩
theorem kf_RX11_86 : FOk RX11 86 11 15 false (tyX11 15) := ⟨RX11, TX11, 16, tyX11, rfl, inX11, tyX11_ok, nmX11, by decide, mt_2 (List.mem_of_getElem? (i := 233) rfl), rfl, rfl, rfl⟩
theorem kf_RX11_93 : FOk RX11 93 9 1 false (tyX9 1) := ⟨RX9, TX9, 8, tyX9, rfl, inX9, tyX9_ok, nmX9, by decide, mt_1 (List.mem_of_getElem? (i := 203) rfl), rfl, rfl, rfl⟩
theorem kf_RX11_96 : FOk RX11 96 9 0 true (tyX9 0) := ⟨RX9, TX9, 8, tyX9, rfl, inX9, tyX9_ok, nmX9, by decide, mt_1 (List.mem_of_getElem? (i := 201) rfl), rfl, rfl, rfl⟩
theorem kf_RX11_198 : FOk RX11 198 0 0 false (tyX0 0) := ⟨RX0, TX0, 11, tyX0, rfl, inX0, tyX0_ok, nmX0, by decide, mt_2 (List.mem_of_getElem? (i := 150) rfl), rfl, rfl, rfl⟩
theorem kf_RX11_205 : FOk RX11 205 7 7 false (tyX7 7) := ⟨RX7, TX7, 15, tyX7, rfl, inX7, tyX7_ok, nmX7, by decide, mt_1 (List.mem_of_getElem? (i := 64) rfl), rfl, rfl, rfl⟩
theorem kf_RX11_214 : FOk RX11 214 6 0 false (tyX6 0) := ⟨RX6, TX6, 5, tyX6, rfl, inX6, tyX6_ok, nmX6, by decide, mt_1 (List.mem_of_getElem? (i := 175) rfl), rfl, rfl, rfl⟩
theorem kf_RX11_220 : FOk RX11 220 3 4 false (tyX3 4) := ⟨RX3, TX3, 7, tyX3, rfl, inX3, tyX3_ok, nmX3, by decide, mt_1 (List.mem_of_getElem? (i := 145) rfl), rfl, rfl, rfl⟩
theorem kf_RX11_224 : FOk RX11 224 7 11 false (tyX7 11) := ⟨RX7, TX7, 15, tyX7, rfl, inX7, tyX7_ok, nmX7, by decide, mt_1 (List.mem_of_getElem? (i := 81) rfl), rfl, rfl, rfl⟩
theorem kf_RX11_227 : FOk RX11 227 7 12 false (tyX7 12) := ⟨RX7, TX7, 15, tyX7, rfl, inX7, tyX7_ok, nmX7, by decide, mt_1 (List.mem_of_getElem? (i := 86) rfl), rfl, rfl, rfl⟩
theorem kf_RX11_230 : FOk RX11 230 7 13 false (tyX7 13) := ⟨RX7, TX7, 15, tyX7, rfl, inX7, tyX7_ok, nmX7, by decide, mt_1 (List.mem_of_getElem? (i := 93) rfl), rfl, rfl, rfl⟩
theorem kf_RX11_233 : FOk RX11 233 7 14 false (tyX7 14) := ⟨RX7, TX7, 15, tyX7, rfl, inX7, tyX7_ok, nmX7, by decide, mt_1 (List.mem_of_getElem? (i := 100) rfl), rfl, rfl, rfl⟩
theorem kf_RX11_269 : FOk RX11 269 8 0 false (tyX8 0) := ⟨RX8, TX8, 14, tyX8, rfl, inX8, tyX8_ok, nmX8, by decide, mt_2 (List.mem_of_getElem? (i := 49) rfl), rfl, rfl, rfl⟩
theorem kf_RX11_275 : FOk RX11 275 10 0 false (tyX10 0) := ⟨RX10, TX10, 9, tyX10, rfl, inX10, tyX10_ok, nmX10, by decide, mt_2 (List.mem_of_getElem? (i := 119) rfl), rfl, rfl, rfl⟩
theorem kf_RX11_331 : FOk RX11 331 4 0 false (tyX4 0) := ⟨RX4, TX4, 8, tyX4, rfl, inX4, tyX4_ok, nmX4, by decide, mt_2 (List.mem_of_getElem? (i := 186) rfl), rfl, rfl, rfl⟩
theorem kf_RX11_337 : FOk RX11 337 4 1 false (tyX4 1) := ⟨RX4, TX4, 8, tyX4, rfl, inX4, tyX4_ok, nmX4, by decide, mt_2 (List.mem_of_getElem? (i := 188) rfl), rfl, rfl, rfl⟩
theorem kf_RX11_347 : FOk RX11 347 7 4 false (tyX7 4) := ⟨RX7, TX7, 15, tyX7, rfl, inX7, tyX7_ok, nmX7, by decide, mt_1 (List.mem_of_getElem? (i := 52) rfl), rfl, rfl, rfl⟩
theorem kf_RX11_361 : FOk RX11 361 7 5 false (tyX7 5) := ⟨RX7, TX7, 15, tyX7, rfl, inX7, tyX7_ok, nmX7, by decide, mt_1 (List.mem_of_getElem? (i := 57) rfl), rfl, rfl, rfl⟩
theorem kf_RX0_9 : FOk RX0 9 0 0 false (tyX0 0) := ⟨RX0, TX0, 11, tyX0, rfl, inX0, tyX0_ok, nmX0, by decide, mt_2 (List.mem_of_getElem? (i := 149) rfl), rfl, rfl, rfl⟩
theorem kf_RX0_15 : FOk RX0 15 0 1 false (tyX0 1) := ⟨RX0, TX0, 11, tyX0, rfl, inX0, tyX0_ok, nmX0, by decide, mt_2 (List.mem_of_getElem? (i := 151) rfl), rfl, rfl, rfl⟩
theorem kf_RX0_18 : FOk RX0 18 0 2 false (tyX0 2) := ⟨RX0, TX0, 11, tyX0, rfl, inX0, tyX0_ok, nmX0, by decide, mt_2 (List.mem_of_getElem? (i := 152) rfl), rfl, rfl, rfl⟩
theorem kf_RX0_21 : FOk RX0 21 0 3 false (tyX0 3) := ⟨RX0, TX0, 11, tyX0, rfl, inX0, tyX0_ok, nmX0, by decide, mt_2 (List.mem_of_getElem? (i := 153) rfl), rfl, rfl, rfl⟩
theorem kf_RX0_24 : FOk RX0 24 0 4 false (tyX0 4) := ⟨RX0, TX0, 11, tyX0, rfl, inX0, tyX0_ok, nmX0, by decide, mt_2 (List.mem_of_getElem? (i := 154) rfl), rfl, rfl, rfl⟩
theorem kf_RX0_30 : FOk RX0 30 0 5 true (tyX0 5) := ⟨RX0, TX0, 11, tyX0, rfl, inX0, tyX0_ok, nmX0, by decide, mt_2 (List.mem_of_getElem? (i := 155) rfl), rfl, rfl, rfl⟩
theorem kf_RX0_34 : FOk RX0 34 10 1 true (tyX10 1) := ⟨RX10, TX10, 9, tyX10, rfl, inX10, tyX10_ok, nmX10, by decide, mt_2 (List.mem_of_getElem? (i := 121) rfl), rfl, rfl, rfl⟩
theorem kf_RX0_38 : FOk RX0 38 0 6 true (tyX0 6) := ⟨RX0, TX0, 11, tyX0, rfl, inX0, tyX0_ok, nmX0, by decide, mt_2 (List.mem_of_getElem? (i := 157) rfl), rfl, rfl, rfl⟩
theorem kf_RX0_39 : FOk RX0 39 0 7 true (tyX0 7) := ⟨RX0, TX0, 11, tyX0, rfl, inX0, tyX0_ok, nmX0, by decide, mt_2 (List.mem_of_getElem? (i := 158) rfl), rfl, rfl, rfl⟩
theorem kf_RX0_43 : FOk RX0 43 0 8 true (tyX0 8) := ⟨RX0, TX0, 11, tyX0, rfl, inX0, tyX0_ok, nmX0, by decide, mt_2 (List.mem_of_getElem? (i := 159) rfl), rfl, rfl, rfl⟩
theorem kf_RX0_46 : FOk RX0 46 0 9 true (tyX0 9) := ⟨RX0, TX0, 11, tyX0, rfl, inX0, tyX0_ok, nmX0, by decide, mt_2 (List.mem_of_getElem? (i := 160) rfl), rfl, rfl, rfl⟩
theorem kf_RX0_49 : FOk RX0 49 0 10 true (tyX0 10) := ⟨RX0, TX0, 11, tyX0, rfl, inX0, tyX0_ok, nmX0, by decide, mt_2 (List.mem_of_getElem? (i := 161) rfl), rfl, rfl, rfl⟩
theorem kf_RX0_52 : FOk RX0 52 7 8 false (tyX7 8) := ⟨RX7, TX7, 15, tyX7, rfl, inX7, tyX7_ok, nmX7, by decide, mt_1 (List.mem_of_getElem? (i := 67) rfl), rfl, rfl, rfl⟩
theorem kf_RX0_55 : FOk RX0 55 7 7 false (tyX7 7) := ⟨RX7, TX7, 15, tyX7, rfl, inX7, tyX7_ok, nmX7, by decide, mt_1 (List.mem_of_getElem? (i := 63) rfl), rfl, rfl, rfl⟩
theorem kf_RX0_62 : FOk RX0 62 7 9 false (tyX7 9) := ⟨RX7, TX7, 15, tyX7, rfl, inX7, tyX7_ok, nmX7, by decide, mt_1 (List.mem_of_getElem? (i := 70) rfl), rfl, rfl, rfl⟩
theorem kf_RX0_63 : FOk RX0 63 7 10 false (tyX7 10) := ⟨RX7, TX7, 15, tyX7, rfl, inX7, tyX7_ok, nmX7, by decide, mt_1 (List.mem_of_getElem? (i := 74) rfl), rfl, rfl, rfl⟩
theorem kf_RX0_85 : FOk RX0 85 7 13 false (tyX7 13) := ⟨RX7, TX7, 15, tyX7, rfl, inX7, tyX7_ok, nmX7, by decide, mt_1 (List.mem_of_getElem? (i := 92) rfl), rfl, rfl, rfl⟩
theorem kf_RX0_88 : FOk RX0 88 7 14 false (tyX7 14) := ⟨RX7, TX7, 15, tyX7, rfl, inX7, tyX7_ok, nmX7, by decide, mt_1 (List.mem_of_getElem? (i := 99) rfl), rfl, rfl, rfl⟩
theorem kf_RX0_185 : FOk RX0 185 10 0 false (tyX10 0) := ⟨RX10, TX10, 9, tyX10, rfl, inX10, tyX10_ok, nmX10, by decide, mt_2 (List.mem_of_getElem? (i := 118) rfl), rfl, rfl, rfl⟩
theorem kf_RX1_10 : FOk RX1 10 1 0 true (tyX1 0) := ⟨RX1, TX1, 2, tyX1, rfl, inX1, tyX1_ok, nmX1, by decide, mt_2 (List.mem_of_getElem? (i := 9) rfl), rfl, rfl, rfl⟩
theorem kf_RX1_16 : FOk RX1 16 1 1 true (tyX1 1) := ⟨RX1, TX1, 2, tyX1, rfl, inX1, tyX1_ok, nmX1, by decide, mt_2 (List.mem_of_getElem? (i := 10) rfl), rfl, rfl, rfl⟩
theorem kf_RX1_20 : FOk RX1 20 3 4 false (tyX3 4) := ⟨RX3, TX3, 7, tyX3, rfl, inX3, tyX3_ok, nmX3, by decide, mt_1 (List.mem_of_getElem? (i := 142) rfl), rfl, rfl, rfl⟩
theorem kf_RX1_30 : FOk RX1 30 7 5 false (tyX7 5) := ⟨RX7, TX7, 15, tyX7, rfl, inX7, tyX7_ok, nmX7, by decide, mt_1 (List.mem_of_getElem? (i := 53) rfl), rfl, rfl, rfl⟩
theorem kf_RX1_35 : FOk RX1 35 7 3 false (tyX7 3) := ⟨RX7, TX7, 15, tyX7, rfl, inX7, tyX7_ok, nmX7, by decide, mt_1 (List.mem_of_getElem? (i := 47) rfl), rfl, rfl, rfl⟩
theorem kf_RX1_68 : FOk RX1 68 3 2 false (tyX3 2) := ⟨RX3, TX3, 7, tyX3, rfl, inX3, tyX3_ok, nmX3, by decide, mt_1 (List.mem_of_getElem? (i := 136) rfl), rfl, rfl, rfl⟩
theorem kf_RX1_71 : FOk RX1 71 3 3 false (tyX3 3) := ⟨RX3, TX3, 7, tyX3, rfl, inX3, tyX3_ok, nmX3, by decide, mt_1 (List.mem_of_getElem? (i := 139) rfl), rfl, rfl, rfl⟩
theorem kf_RX2_9 : FOk RX2 9 2 0 false (tyX2 0) := ⟨RX2, TX2, 3, tyX2, rfl, inX2, tyX2_ok, nmX2, by decide, mt_1 (List.mem_of_getElem? (i := 239) rfl), rfl, rfl, rfl⟩
theorem kf_RX2_15 : FOk RX2 15 2 1 true (tyX2 1) := ⟨RX2, TX2, 3, tyX2, rfl, inX2, tyX2_ok, nmX2, by decide, mt_2 (List.mem_of_getElem? (i := 0) rfl), rfl, rfl, rfl⟩
theorem kf_RX2_19 : FOk RX2 19 2 2 true (tyX2 2) := ⟨RX2, TX2, 3, tyX2, rfl, inX2, tyX2_ok, nmX2, by decide, mt_2 (List.mem_of_getElem? (i := 1) rfl), rfl, rfl, rfl⟩
theorem kf_RX3_9 : FOk RX3 9 3 0 true (tyX3 0) := ⟨RX3, TX3, 7, tyX3, rfl, inX3, tyX3_ok, nmX3, by decide, mt_1 (List.mem_of_getElem? (i := 133) rfl), rfl, rfl, rfl⟩
theorem kf_RX3_15 : FOk RX3 15 3 1 true (tyX3 1) := ⟨RX3, TX3, 7, tyX3, rfl, inX3, tyX3_ok, nmX3, by decide, mt_1 (List.mem_of_getElem? (i := 134) rfl), rfl, rfl, rfl⟩
theorem kf_RX3_18 : FOk RX3 18 3 2 false (tyX3 2) := ⟨RX3, TX3, 7, tyX3, rfl, inX3, tyX3_ok, nmX3, by decide, mt_1 (List.mem_of_getElem? (i := 135) rfl), rfl, rfl, rfl⟩
theorem kf_RX3_22 : FOk RX3 22 3 3 false (tyX3 3) := ⟨RX3, TX3, 7, tyX3, rfl, inX3, tyX3_ok, nmX3, by decide, mt_1 (List.mem_of_getElem? (i := 138) rfl), rfl, rfl, rfl⟩
theorem kf_RX3_25 : FOk RX3 25 3 4 false (tyX3 4) := ⟨RX3, TX3, 7, tyX3, rfl, inX3, tyX3_ok, nmX3, by decide, mt_1 (List.mem_of_getElem? (i := 141) rfl), rfl, rfl, rfl⟩
theorem kf_RX3_30 : FOk RX3 30 3 5 true (tyX3 5) := ⟨RX3, TX3, 7, tyX3, rfl, inX3, tyX3_ok, nmX3, by decide, mt_1 (List.mem_of_getElem? (i := 146) rfl), rfl, rfl, rfl⟩
theorem kf_RX3_35 : FOk RX3 35 3 6 true (tyX3 6) := ⟨RX3, TX3, 7, tyX3, rfl, inX3, tyX3_ok, nmX3, by decide, mt_1 (List.mem_of_getElem? (i := 147) rfl), rfl, rfl, rfl⟩
theorem kf_RX3_47 : FOk RX3 47 7 11 false (tyX7 11) := ⟨RX7, TX7, 15, tyX7, rfl, inX7, tyX7_ok, nmX7, by decide, mt_1 (List.mem_of_getElem? (i := 79) rfl), rfl, rfl, rfl⟩
theorem kf_RX3_50 : FOk RX3 50 7 13 false (tyX7 13) := ⟨RX7, TX7, 15, tyX7, rfl, inX7, tyX7_ok, nmX7, by decide, mt_1 (List.mem_of_getElem? (i := 91) rfl), rfl, rfl, rfl⟩
theorem kf_RX3_53 : FOk RX3 53 7 12 false (tyX7 12) := ⟨RX7, TX7, 15, tyX7, rfl, inX7, tyX7_ok, nmX7, by decide, mt_1 (List.mem_of_getElem? (i := 84) rfl), rfl, rfl, rfl⟩
theorem kf_RX3_56 : FOk RX3 56 7 14 false (tyX7 14) := ⟨RX7, TX7, 15, tyX7, rfl, inX7, tyX7_ok, nmX7, by decide, mt_1 (List.mem_of_getElem? (i := 98) rfl), rfl, rfl, rfl⟩
theorem kf_RX3_69 : FOk RX3 69 7 0 false (tyX7 0) := ⟨RX7, TX7, 15, tyX7, rfl, inX7, tyX7_ok, nmX7, by decide, mt_1 (List.mem_of_getElem? (i := 39) rfl), rfl, rfl, rfl⟩
theorem kf_RX3_72 : FOk RX3 72 7 1 false (tyX7 1) := ⟨RX7, TX7, 15, tyX7, rfl, inX7, tyX7_ok, nmX7, by decide, mt_1 (List.mem_of_getElem? (i := 42) rfl), rfl, rfl, rfl⟩
theorem kf_RX3_75 : FOk RX3 75 7 5 false (tyX7 5) := ⟨RX7, TX7, 15, tyX7, rfl, inX7, tyX7_ok, nmX7, by decide, mt_1 (List.mem_of_getElem? (i := 56) rfl), rfl, rfl, rfl⟩
theorem kf_RX3_91 : FOk RX3 91 7 2 false (tyX7 2) := ⟨RX7, TX7, 15, tyX7, rfl, inX7, tyX7_ok, nmX7, by decide, mt_1 (List.mem_of_getElem? (i := 45) rfl), rfl, rfl, rfl⟩
theorem kf_RX3_94 : FOk RX3 94 7 3 false (tyX7 3) := ⟨RX7, TX7, 15, tyX7, rfl, inX7, tyX7_ok, nmX7, by decide, mt_1 (List.mem_of_getElem? (i := 48) rfl), rfl, rfl, rfl⟩
theorem kf_RX3_97 : FOk RX3 97 7 4 false (tyX7 4) := ⟨RX7, TX7, 15, tyX7, rfl, inX7, tyX7_ok, nmX7, by decide, mt_1 (List.mem_of_getElem? (i := 51) rfl), rfl, rfl, rfl⟩
theorem kf_RX3_112 : FOk RX3 112 7 6 false (tyX7 6) := ⟨RX7, TX7, 15, tyX7, rfl, inX7, tyX7_ok, nmX7, by decide, mt_1 (List.mem_of_getElem? (i := 61) rfl), rfl, rfl, rfl⟩
theorem kf_RX3_135 : FOk RX3 135 7 7 false (tyX7 7) := ⟨RX7, TX7, 15, tyX7, rfl, inX7, tyX7_ok, nmX7, by decide, mt_1 (List.mem_of_getElem? (i := 65) rfl), rfl, rfl, rfl⟩
theorem kf_RX3_138 : FOk RX3 138 7 8 false (tyX7 8) := ⟨RX7, TX7, 15, tyX7, rfl, inX7, tyX7_ok, nmX7, by decide, mt_1 (List.mem_of_getElem? (i := 68) rfl), rfl, rfl, rfl⟩
theorem kf_RX3_141 : FOk RX3 141 7 9 false (tyX7 9) := ⟨RX7, TX7, 15, tyX7, rfl, inX7, tyX7_ok, nmX7, by decide, mt_1 (List.mem_of_getElem? (i := 72) rfl), rfl, rfl, rfl⟩
theorem kf_RX3_144 : FOk RX3 144 7 10 false (tyX7 10) := ⟨RX7, TX7, 15, tyX7, rfl, inX7, tyX7_ok, nmX7, by decide, mt_1 (List.mem_of_getElem? (i := 76) rfl), rfl, rfl, rfl⟩
theorem kf_RX4_9 : FOk RX4 9 4 0 false (tyX4 0) := ⟨RX4, TX4, 8, tyX4, rfl, inX4, tyX4_ok, nmX4, by decide, mt_2 (List.mem_of_getElem? (i := 185) rfl), rfl, rfl, rfl⟩
theorem kf_RX4_15 : FOk RX4 15 4 1 false (tyX4 1) := ⟨RX4, TX4, 8, tyX4, rfl, inX4, tyX4_ok, nmX4, by decide, mt_2 (List.mem_of_getElem? (i := 187) rfl), rfl, rfl, rfl⟩
theorem kf_RX4_19 : FOk RX4 19 4 2 true (tyX4 2) := ⟨RX4, TX4, 8, tyX4, rfl, inX4, tyX4_ok, nmX4, by decide, mt_2 (List.mem_of_getElem? (i := 189) rfl), rfl, rfl, rfl⟩
theorem kf_RX4_23 : FOk RX4 23 4 3 true (tyX4 3) := ⟨RX4, TX4, 8, tyX4, rfl, inX4, tyX4_ok, nmX4, by decide, mt_2 (List.mem_of_getElem? (i := 191) rfl), rfl, rfl, rfl⟩
theorem kf_RX4_29 : FOk RX4 29 4 4 true (tyX4 4) := ⟨RX4, TX4, 8, tyX4, rfl, inX4, tyX4_ok, nmX4, by decide, mt_2 (List.mem_of_getElem? (i := 193) rfl), rfl, rfl, rfl⟩
theorem kf_RX4_33 : FOk RX4 33 0 5 true (tyX0 5) := ⟨RX0, TX0, 11, tyX0, rfl, inX0, tyX0_ok, nmX0, by decide, mt_2 (List.mem_of_getElem? (i := 156) rfl), rfl, rfl, rfl⟩
theorem kf_RX4_37 : FOk RX4 37 4 5 true (tyX4 5) := ⟨RX4, TX4, 8, tyX4, rfl, inX4, tyX4_ok, nmX4, by decide, mt_2 (List.mem_of_getElem? (i := 195) rfl), rfl, rfl, rfl⟩
theorem kf_RX4_38 : FOk RX4 38 10 1 true (tyX10 1) := ⟨RX10, TX10, 9, tyX10, rfl, inX10, tyX10_ok, nmX10, by decide, mt_2 (List.mem_of_getElem? (i := 122) rfl), rfl, rfl, rfl⟩
theorem kf_RX4_44 : FOk RX4 44 4 6 true (tyX4 6) := ⟨RX4, TX4, 8, tyX4, rfl, inX4, tyX4_ok, nmX4, by decide, mt_2 (List.mem_of_getElem? (i := 197) rfl), rfl, rfl, rfl⟩
theorem kf_RX4_45 : FOk RX4 45 4 7 true (tyX4 7) := ⟨RX4, TX4, 8, tyX4, rfl, inX4, tyX4_ok, nmX4, by decide, mt_2 (List.mem_of_getElem? (i := 199) rfl), rfl, rfl, rfl⟩
theorem kf_RX4_67 : FOk RX4 67 3 4 false (tyX3 4) := ⟨RX3, TX3, 7, tyX3, rfl, inX3, tyX3_ok, nmX3, by decide, mt_1 (List.mem_of_getElem? (i := 144) rfl), rfl, rfl, rfl⟩
theorem kf_RX4_115 : FOk RX4 115 7 6 false (tyX7 6) := ⟨RX7, TX7, 15, tyX7, rfl, inX7, tyX7_ok, nmX7, by decide, mt_1 (List.mem_of_getElem? (i := 59) rfl), rfl, rfl, rfl⟩
theorem kf_RX4_133 : FOk RX4 133 7 14 false (tyX7 14) := ⟨RX7, TX7, 15, tyX7, rfl, inX7, tyX7_ok, nmX7, by decide, mt_1 (List.mem_of_getElem? (i := 97) rfl), rfl, rfl, rfl⟩
theorem kf_RX4_144 : FOk RX4 144 7 13 false (tyX7 13) := ⟨RX7, TX7, 15, tyX7, rfl, inX7, tyX7_ok, nmX7, by decide, mt_1 (List.mem_of_getElem? (i := 90) rfl), rfl, rfl, rfl⟩
theorem kf_RX4_147 : FOk RX4 147 7 9 false (tyX7 9) := ⟨RX7, TX7, 15, tyX7, rfl, inX7, tyX7_ok, nmX7, by decide, mt_1 (List.mem_of_getElem? (i := 71) rfl), rfl, rfl, rfl⟩
theorem kf_RX4_153 : FOk RX4 153 7 10 false (tyX7 10) := ⟨RX7, TX7, 15, tyX7, rfl, inX7, tyX7_ok, nmX7, by decide, mt_1 (List.mem_of_getElem? (i := 75) rfl), rfl, rfl, rfl⟩
theorem kf_RX4_175 : FOk RX4 175 7 12 false (tyX7 12) := ⟨RX7, TX7, 15, tyX7, rfl, inX7, tyX7_ok, nmX7, by decide, mt_1 (List.mem_of_getElem? (i := 85) rfl), rfl, rfl, rfl⟩
theorem kf_RX4_178 : FOk RX4 178 7 11 false (tyX7 11) := ⟨RX7, TX7, 15, tyX7, rfl, inX7, tyX7_ok, nmX7, by decide, mt_1 (List.mem_of_getElem? (i := 80) rfl), rfl, rfl, rfl⟩
theorem kf_RX4_181 : FOk RX4 181 3 2 false (tyX3 2) := ⟨RX3, TX3, 7, tyX3, rfl, inX3, tyX3_ok, nmX3, by decide, mt_1 (List.mem_of_getElem? (i := 137) rfl), rfl, rfl, rfl⟩
theorem kf_RX4_184 : FOk RX4 184 3 3 false (tyX3 3) := ⟨RX3, TX3, 7, tyX3, rfl, inX3, tyX3_ok, nmX3, by decide, mt_1 (List.mem_of_getElem? (i := 140) rfl), rfl, rfl, rfl⟩
theorem kf_RX4_196 : FOk RX4 196 7 0 false (tyX7 0) := ⟨RX7, TX7, 15, tyX7, rfl, inX7, tyX7_ok, nmX7, by decide, mt_1 (List.mem_of_getElem? (i := 38) rfl), rfl, rfl, rfl⟩
theorem kf_RX4_203 : FOk RX4 203 10 0 false (tyX10 0) := ⟨RX10, TX10, 9, tyX10, rfl, inX10, tyX10_ok, nmX10, by decide, mt_2 (List.mem_of_getElem? (i := 117) rfl), rfl, rfl, rfl⟩
theorem kf_RX5_9 : FOk RX5 9 5 0 false (tyX5 0) := ⟨RX5, TX5, 5, tyX5, rfl, inX5, tyX5_ok, nmX5, by decide, mt_2 (List.mem_of_getElem? (i := 97) rfl), rfl, rfl, rfl⟩
theorem kf_RX5_17 : FOk RX5 17 5 1 true (tyX5 1) := ⟨RX5, TX5, 5, tyX5, rfl, inX5, tyX5_ok, nmX5, by decide, mt_2 (List.mem_of_getElem? (i := 99) rfl), rfl, rfl, rfl⟩
theorem kf_RX5_22 : FOk RX5 22 5 2 true (tyX5 2) := ⟨RX5, TX5, 5, tyX5, rfl, inX5, tyX5_ok, nmX5, by decide, mt_2 (List.mem_of_getElem? (i := 100) rfl), rfl, rfl, rfl⟩
theorem kf_RX5_26 : FOk RX5 26 5 3 true (tyX5 3) := ⟨RX5, TX5, 5, tyX5, rfl, inX5, tyX5_ok, nmX5, by decide, mt_2 (List.mem_of_getElem? (i := 101) rfl), rfl, rfl, rfl⟩
theorem kf_RX5_30 : FOk RX5 30 5 4 true (tyX5 4) := ⟨RX5, TX5, 5, tyX5, rfl, inX5, tyX5_ok, nmX5, by decide, mt_2 (List.mem_of_getElem? (i := 102) rfl), rfl, rfl, rfl⟩
theorem kf_RX5_34 : FOk RX5 34 3 4 false (tyX3 4) := ⟨RX3, TX3, 7, tyX3, rfl, inX3, tyX3_ok, nmX3, by decide, mt_1 (List.mem_of_getElem? (i := 143) rfl), rfl, rfl, rfl⟩
theorem kf_RX5_54 : FOk RX5 54 7 5 false (tyX7 5) := ⟨RX7, TX7, 15, tyX7, rfl, inX7, tyX7_ok, nmX7, by decide, mt_1 (List.mem_of_getElem? (i := 55) rfl), rfl, rfl, rfl⟩
theorem kf_RX5_59 : FOk RX5 59 7 0 false (tyX7 0) := ⟨RX7, TX7, 15, tyX7, rfl, inX7, tyX7_ok, nmX7, by decide, mt_1 (List.mem_of_getElem? (i := 37) rfl), rfl, rfl, rfl⟩
theorem kf_RX5_66 : FOk RX5 66 8 0 false (tyX8 0) := ⟨RX8, TX8, 14, tyX8, rfl, inX8, tyX8_ok, nmX8, by decide, mt_2 (List.mem_of_getElem? (i := 48) rfl), rfl, rfl, rfl⟩
theorem kf_RX5_94 : FOk RX5 94 7 13 false (tyX7 13) := ⟨RX7, TX7, 15, tyX7, rfl, inX7, tyX7_ok, nmX7, by decide, mt_1 (List.mem_of_getElem? (i := 89) rfl), rfl, rfl, rfl⟩
theorem kf_RX5_97 : FOk RX5 97 7 14 false (tyX7 14) := ⟨RX7, TX7, 15, tyX7, rfl, inX7, tyX7_ok, nmX7, by decide, mt_1 (List.mem_of_getElem? (i := 96) rfl), rfl, rfl, rfl⟩
theorem kf_RX5_100 : FOk RX5 100 7 6 false (tyX7 6) := ⟨RX7, TX7, 15, tyX7, rfl, inX7, tyX7_ok, nmX7, by decide, mt_1 (List.mem_of_getElem? (i := 60) rfl), rfl, rfl, rfl⟩
theorem kf_RX6_9 : FOk RX6 9 6 0 false (tyX6 0) := ⟨RX6, TX6, 5, tyX6, rfl, inX6, tyX6_ok, nmX6, by decide, mt_1 (List.mem_of_getElem? (i := 174) rfl), rfl, rfl, rfl⟩
theorem kf_RX6_15 : FOk RX6 15 6 1 false (tyX6 1) := ⟨RX6, TX6, 5, tyX6, rfl, inX6, tyX6_ok, nmX6, by decide, mt_1 (List.mem_of_getElem? (i := 176) rfl), rfl, rfl, rfl⟩
theorem kf_RX6_20 : FOk RX6 20 6 2 true (tyX6 2) := ⟨RX6, TX6, 5, tyX6, rfl, inX6, tyX6_ok, nmX6, by decide, mt_1 (List.mem_of_getElem? (i := 177) rfl), rfl, rfl, rfl⟩
theorem kf_RX6_26 : FOk RX6 26 6 3 true (tyX6 3) := ⟨RX6, TX6, 5, tyX6, rfl, inX6, tyX6_ok, nmX6, by decide, mt_1 (List.mem_of_getElem? (i := 178) rfl), rfl, rfl, rfl⟩
theorem kf_RX6_29 : FOk RX6 29 6 4 true (tyX6 4) := ⟨RX6, TX6, 5, tyX6, rfl, inX6, tyX6_ok, nmX6, by decide, mt_1 (List.mem_of_getElem? (i := 179) rfl), rfl, rfl, rfl⟩
theorem kf_RX7_9 : FOk RX7 9 7 0 false (tyX7 0) := ⟨RX7, TX7, 15, tyX7, rfl, inX7, tyX7_ok, nmX7, by decide, mt_1 (List.mem_of_getElem? (i := 36) rfl), rfl, rfl, rfl⟩
theorem kf_RX7_15 : FOk RX7 15 7 1 false (tyX7 1) := ⟨RX7, TX7, 15, tyX7, rfl, inX7, tyX7_ok, nmX7, by decide, mt_1 (List.mem_of_getElem? (i := 40) rfl), rfl, rfl, rfl⟩
theorem kf_RX7_18 : FOk RX7 18 7 6 false (tyX7 6) := ⟨RX7, TX7, 15, tyX7, rfl, inX7, tyX7_ok, nmX7, by decide, mt_1 (List.mem_of_getElem? (i := 58) rfl), rfl, rfl, rfl⟩
theorem kf_RX7_21 : FOk RX7 21 7 7 false (tyX7 7) := ⟨RX7, TX7, 15, tyX7, rfl, inX7, tyX7_ok, nmX7, by decide, mt_1 (List.mem_of_getElem? (i := 62) rfl), rfl, rfl, rfl⟩
theorem kf_RX7_24 : FOk RX7 24 7 2 false (tyX7 2) := ⟨RX7, TX7, 15, tyX7, rfl, inX7, tyX7_ok, nmX7, by decide, mt_1 (List.mem_of_getElem? (i := 43) rfl), rfl, rfl, rfl⟩
theorem kf_RX7_27 : FOk RX7 27 7 3 false (tyX7 3) := ⟨RX7, TX7, 15, tyX7, rfl, inX7, tyX7_ok, nmX7, by decide, mt_1 (List.mem_of_getElem? (i := 46) rfl), rfl, rfl, rfl⟩
theorem kf_RX7_30 : FOk RX7 30 7 4 false (tyX7 4) := ⟨RX7, TX7, 15, tyX7, rfl, inX7, tyX7_ok, nmX7, by decide, mt_1 (List.mem_of_getElem? (i := 49) rfl), rfl, rfl, rfl⟩
theorem kf_RX7_33 : FOk RX7 33 7 5 false (tyX7 5) := ⟨RX7, TX7, 15, tyX7, rfl, inX7, tyX7_ok, nmX7, by decide, mt_1 (List.mem_of_getElem? (i := 54) rfl), rfl, rfl, rfl⟩
theorem kf_RX7_36 : FOk RX7 36 7 8 false (tyX7 8) := ⟨RX7, TX7, 15, tyX7, rfl, inX7, tyX7_ok, nmX7, by decide, mt_1 (List.mem_of_getElem? (i := 66) rfl), rfl, rfl, rfl⟩
theorem kf_RX7_39 : FOk RX7 39 7 9 false (tyX7 9) := ⟨RX7, TX7, 15, tyX7, rfl, inX7, tyX7_ok, nmX7, by decide, mt_1 (List.mem_of_getElem? (i := 69) rfl), rfl, rfl, rfl⟩
theorem kf_RX7_42 : FOk RX7 42 7 10 false (tyX7 10) := ⟨RX7, TX7, 15, tyX7, rfl, inX7, tyX7_ok, nmX7, by decide, mt_1 (List.mem_of_getElem? (i := 73) rfl), rfl, rfl, rfl⟩
theorem kf_RX7_45 : FOk RX7 45 7 11 false (tyX7 11) := ⟨RX7, TX7, 15, tyX7, rfl, inX7, tyX7_ok, nmX7, by decide, mt_1 (List.mem_of_getElem? (i := 78) rfl), rfl, rfl, rfl⟩
theorem kf_RX7_48 : FOk RX7 48 7 12 false (tyX7 12) := ⟨RX7, TX7, 15, tyX7, rfl, inX7, tyX7_ok, nmX7, by decide, mt_1 (List.mem_of_getElem? (i := 83) rfl), rfl, rfl, rfl⟩
theorem kf_RX7_51 : FOk RX7 51 7 13 false (tyX7 13) := ⟨RX7, TX7, 15, tyX7, rfl, inX7, tyX7_ok, nmX7, by decide, mt_1 (List.mem_of_getElem? (i := 88) rfl), rfl, rfl, rfl⟩
theorem kf_RX7_54 : FOk RX7 54 7 14 false (tyX7 14) := ⟨RX7, TX7, 15, tyX7, rfl, inX7, tyX7_ok, nmX7, by decide, mt_1 (List.mem_of_getElem? (i := 95) rfl), rfl, rfl, rfl⟩
theorem kf_RX8_7 : FOk RX8 7 8 1 true (tyX8 1) := ⟨RX8, TX8, 14, tyX8, rfl, inX8, tyX8_ok, nmX8, by decide, mt_2 (List.mem_of_getElem? (i := 50) rfl), rfl, rfl, rfl⟩
theorem kf_RX8_13 : FOk RX8 13 8 2 true (tyX8 2) := ⟨RX8, TX8, 14, tyX8, rfl, inX8, tyX8_ok, nmX8, by decide, mt_2 (List.mem_of_getElem? (i := 51) rfl), rfl, rfl, rfl⟩
theorem kf_RX8_16 : FOk RX8 16 8 3 true (tyX8 3) := ⟨RX8, TX8, 14, tyX8, rfl, inX8, tyX8_ok, nmX8, by decide, mt_2 (List.mem_of_getElem? (i := 52) rfl), rfl, rfl, rfl⟩
theorem kf_RX8_19 : FOk RX8 19 8 4 true (tyX8 4) := ⟨RX8, TX8, 14, tyX8, rfl, inX8, tyX8_ok, nmX8, by decide, mt_2 (List.mem_of_getElem? (i := 54) rfl), rfl, rfl, rfl⟩
theorem kf_RX8_22 : FOk RX8 22 8 5 true (tyX8 5) := ⟨RX8, TX8, 14, tyX8, rfl, inX8, tyX8_ok, nmX8, by decide, mt_2 (List.mem_of_getElem? (i := 56) rfl), rfl, rfl, rfl⟩
theorem kf_RX8_25 : FOk RX8 25 8 6 true (tyX8 6) := ⟨RX8, TX8, 14, tyX8, rfl, inX8, tyX8_ok, nmX8, by decide, mt_2 (List.mem_of_getElem? (i := 58) rfl), rfl, rfl, rfl⟩
theorem kf_RX8_28 : FOk RX8 28 8 7 true (tyX8 7) := ⟨RX8, TX8, 14, tyX8, rfl, inX8, tyX8_ok, nmX8, by decide, mt_2 (List.mem_of_getElem? (i := 60) rfl), rfl, rfl, rfl⟩
theorem kf_RX8_31 : FOk RX8 31 8 12 true (tyX8 12) := ⟨RX8, TX8, 14, tyX8, rfl, inX8, tyX8_ok, nmX8, by decide, mt_2 (List.mem_of_getElem? (i := 66) rfl), rfl, rfl, rfl⟩
theorem kf_RX8_34 : FOk RX8 34 8 13 true (tyX8 13) := ⟨RX8, TX8, 14, tyX8, rfl, inX8, tyX8_ok, nmX8, by decide, mt_2 (List.mem_of_getElem? (i := 67) rfl), rfl, rfl, rfl⟩
theorem kf_RX8_37 : FOk RX8 37 8 8 false (tyX8 8) := ⟨RX8, TX8, 14, tyX8, rfl, inX8, tyX8_ok, nmX8, by decide, mt_2 (List.mem_of_getElem? (i := 62) rfl), rfl, rfl, rfl⟩
theorem kf_RX8_41 : FOk RX8 41 8 9 false (tyX8 9) := ⟨RX8, TX8, 14, tyX8, rfl, inX8, tyX8_ok, nmX8, by decide, mt_2 (List.mem_of_getElem? (i := 63) rfl), rfl, rfl, rfl⟩
theorem kf_RX8_44 : FOk RX8 44 8 0 false (tyX8 0) := ⟨RX8, TX8, 14, tyX8, rfl, inX8, tyX8_ok, nmX8, by decide, mt_2 (List.mem_of_getElem? (i := 47) rfl), rfl, rfl, rfl⟩
theorem kf_RX8_47 : FOk RX8 47 7 13 false (tyX7 13) := ⟨RX7, TX7, 15, tyX7, rfl, inX7, tyX7_ok, nmX7, by decide, mt_1 (List.mem_of_getElem? (i := 87) rfl), rfl, rfl, rfl⟩
theorem kf_RX8_52 : FOk RX8 52 8 10 false (tyX8 10) := ⟨RX8, TX8, 14, tyX8, rfl, inX8, tyX8_ok, nmX8, by decide, mt_2 (List.mem_of_getElem? (i := 64) rfl), rfl, rfl, rfl⟩
theorem kf_RX8_53 : FOk RX8 53 7 14 false (tyX7 14) := ⟨RX7, TX7, 15, tyX7, rfl, inX7, tyX7_ok, nmX7, by decide, mt_1 (List.mem_of_getElem? (i := 94) rfl), rfl, rfl, rfl⟩
theorem kf_RX8_56 : FOk RX8 56 8 11 false (tyX8 11) := ⟨RX8, TX8, 14, tyX8, rfl, inX8, tyX8_ok, nmX8, by decide, mt_2 (List.mem_of_getElem? (i := 65) rfl), rfl, rfl, rfl⟩
theorem kf_RX8_57 : FOk RX8 57 7 11 false (tyX7 11) := ⟨RX7, TX7, 15, tyX7, rfl, inX7, tyX7_ok, nmX7, by decide, mt_1 (List.mem_of_getElem? (i := 77) rfl), rfl, rfl, rfl⟩
theorem kf_RX8_60 : FOk RX8 60 7 12 false (tyX7 12) := ⟨RX7, TX7, 15, tyX7, rfl, inX7, tyX7_ok, nmX7, by decide, mt_1 (List.mem_of_getElem? (i := 82) rfl), rfl, rfl, rfl⟩
theorem kf_RX8_63 : FOk RX8 63 7 1 false (tyX7 1) := ⟨RX7, TX7, 15, tyX7, rfl, inX7, tyX7_ok, nmX7, by decide, mt_1 (List.mem_of_getElem? (i := 41) rfl), rfl, rfl, rfl⟩
theorem kf_RX8_74 : FOk RX8 74 7 2 false (tyX7 2) := ⟨RX7, TX7, 15, tyX7, rfl, inX7, tyX7_ok, nmX7, by decide, mt_1 (List.mem_of_getElem? (i := 44) rfl), rfl, rfl, rfl⟩
theorem kf_RX8_80 : FOk RX8 80 7 4 false (tyX7 4) := ⟨RX7, TX7, 15, tyX7, rfl, inX7, tyX7_ok, nmX7, by decide, mt_1 (List.mem_of_getElem? (i := 50) rfl), rfl, rfl, rfl⟩
theorem kf_RX9_12 : FOk RX9 12 9 0 true (tyX9 0) := ⟨RX9, TX9, 8, tyX9, rfl, inX9, tyX9_ok, nmX9, by decide, mt_1 (List.mem_of_getElem? (i := 200) rfl), rfl, rfl, rfl⟩
theorem kf_RX9_18 : FOk RX9 18 9 1 false (tyX9 1) := ⟨RX9, TX9, 8, tyX9, rfl, inX9, tyX9_ok, nmX9, by decide, mt_1 (List.mem_of_getElem? (i := 202) rfl), rfl, rfl, rfl⟩
theorem kf_RX9_22 : FOk RX9 22 9 2 false (tyX9 2) := ⟨RX9, TX9, 8, tyX9, rfl, inX9, tyX9_ok, nmX9, by decide, mt_1 (List.mem_of_getElem? (i := 204) rfl), rfl, rfl, rfl⟩
theorem kf_RX9_25 : FOk RX9 25 9 3 false (tyX9 3) := ⟨RX9, TX9, 8, tyX9, rfl, inX9, tyX9_ok, nmX9, by decide, mt_1 (List.mem_of_getElem? (i := 205) rfl), rfl, rfl, rfl⟩
theorem kf_RX9_28 : FOk RX9 28 9 4 false (tyX9 4) := ⟨RX9, TX9, 8, tyX9, rfl, inX9, tyX9_ok, nmX9, by decide, mt_1 (List.mem_of_getElem? (i := 206) rfl), rfl, rfl, rfl⟩
theorem kf_RX9_31 : FOk RX9 31 9 5 false (tyX9 5) := ⟨RX9, TX9, 8, tyX9, rfl, inX9, tyX9_ok, nmX9, by decide, mt_1 (List.mem_of_getElem? (i := 207) rfl), rfl, rfl, rfl⟩
theorem kf_RX9_34 : FOk RX9 34 9 6 false (tyX9 6) := ⟨RX9, TX9, 8, tyX9, rfl, inX9, tyX9_ok, nmX9, by decide, mt_1 (List.mem_of_getElem? (i := 208) rfl), rfl, rfl, rfl⟩
theorem kf_RX9_38 : FOk RX9 38 9 7 true (tyX9 7) := ⟨RX9, TX9, 8, tyX9, rfl, inX9, tyX9_ok, nmX9, by decide, mt_1 (List.mem_of_getElem? (i := 209) rfl), rfl, rfl, rfl⟩
theorem kf_RX10_9 : FOk RX10 9 10 0 false (tyX10 0) := ⟨RX10, TX10, 9, tyX10, rfl, inX10, tyX10_ok, nmX10, by decide, mt_2 (List.mem_of_getElem? (i := 116) rfl), rfl, rfl, rfl⟩
theorem kf_RX10_18 : FOk RX10 18 10 1 true (tyX10 1) := ⟨RX10, TX10, 9, tyX10, rfl, inX10, tyX10_ok, nmX10, by decide, mt_2 (List.mem_of_getElem? (i := 120) rfl), rfl, rfl, rfl⟩
theorem kf_RX10_22 : FOk RX10 22 10 2 false (tyX10 2) := ⟨RX10, TX10, 9, tyX10, rfl, inX10, tyX10_ok, nmX10, by decide, mt_2 (List.mem_of_getElem? (i := 123) rfl), rfl, rfl, rfl⟩
theorem kf_RX10_25 : FOk RX10 25 10 3 true (tyX10 3) := ⟨RX10, TX10, 9, tyX10, rfl, inX10, tyX10_ok, nmX10, by decide, mt_2 (List.mem_of_getElem? (i := 124) rfl), rfl, rfl, rfl⟩
theorem kf_RX10_29 : FOk RX10 29 10 4 true (tyX10 4) := ⟨RX10, TX10, 9, tyX10, rfl, inX10, tyX10_ok, nmX10, by decide, mt_2 (List.mem_of_getElem? (i := 125) rfl), rfl, rfl, rfl⟩
theorem kf_RX10_32 : FOk RX10 32 10 5 true (tyX10 5) := ⟨RX10, TX10, 9, tyX10, rfl, inX10, tyX10_ok, nmX10, by decide, mt_2 (List.mem_of_getElem? (i := 126) rfl), rfl, rfl, rfl⟩
theorem kf_RX10_35 : FOk RX10 35 10 6 true (tyX10 6) := ⟨RX10, TX10, 9, tyX10, rfl, inX10, tyX10_ok, nmX10, by decide, mt_2 (List.mem_of_getElem? (i := 127) rfl), rfl, rfl, rfl⟩
theorem kf_RX10_38 : FOk RX10 38 10 7 true (tyX10 7) := ⟨RX10, TX10, 9, tyX10, rfl, inX10, tyX10_ok, nmX10, by decide, mt_2 (List.mem_of_getElem? (i := 128) rfl), rfl, rfl, rfl⟩
theorem kf_RX10_44 : FOk RX10 44 10 8 true (tyX10 8) := ⟨RX10, TX10, 9, tyX10, rfl, inX10, tyX10_ok, nmX10, by decide, mt_2 (List.mem_of_getElem? (i := 129) rfl), rfl, rfl, rfl⟩
theorem kf_RX10_48 : FOk RX10 48 5 0 false (tyX5 0) := ⟨RX5, TX5, 5, tyX5, rfl, inX5, tyX5_ok, nmX5, by decide, mt_2 (List.mem_of_getElem? (i := 98) rfl), rfl, rfl, rfl⟩
theorem kf_RX10_59 : FOk RX10 59 8 3 true (tyX8 3) := ⟨RX8, TX8, 14, tyX8, rfl, inX8, tyX8_ok, nmX8, by decide, mt_2 (List.mem_of_getElem? (i := 53) rfl), rfl, rfl, rfl⟩
theorem kf_RX10_64 : FOk RX10 64 8 6 true (tyX8 6) := ⟨RX8, TX8, 14, tyX8, rfl, inX8, tyX8_ok, nmX8, by decide, mt_2 (List.mem_of_getElem? (i := 59) rfl), rfl, rfl, rfl⟩
theorem kf_RX10_73 : FOk RX10 73 8 7 true (tyX8 7) := ⟨RX8, TX8, 14, tyX8, rfl, inX8, tyX8_ok, nmX8, by decide, mt_2 (List.mem_of_getElem? (i := 61) rfl), rfl, rfl, rfl⟩
theorem kf_RX10_80 : FOk RX10 80 8 4 true (tyX8 4) := ⟨RX8, TX8, 14, tyX8, rfl, inX8, tyX8_ok, nmX8, by decide, mt_2 (List.mem_of_getElem? (i := 55) rfl), rfl, rfl, rfl⟩
theorem kf_RX10_83 : FOk RX10 83 8 5 true (tyX8 5) := ⟨RX8, TX8, 14, tyX8, rfl, inX8, tyX8_ok, nmX8, by decide, mt_2 (List.mem_of_getElem? (i := 57) rfl), rfl, rfl, rfl⟩
theorem kf_RX12_7 : FOk RX12 7 12 0 true (tyX12 0) := ⟨RX12, TX12, 30, tyX12, rfl, inX12, tyX12_ok, nmX12, by decide, mt_6 (List.mem_of_getElem? (i := 209) rfl), rfl, rfl, rfl⟩
theorem kf_RX12_13 : FOk RX12 13 12 1 true (tyX12 1) := ⟨RX12, TX12, 30, tyX12, rfl, inX12, tyX12_ok, nmX12, by decide, mt_6 (List.mem_of_getElem? (i := 210) rfl), rfl, rfl, rfl⟩
theorem kf_RX12_16 : FOk RX12 16 12 3 true (tyX12 3) := ⟨RX12, TX12, 30, tyX12, rfl, inX12, tyX12_ok, nmX12, by decide, mt_6 (List.mem_of_getElem? (i := 212) rfl), rfl, rfl, rfl⟩
theorem kf_RX12_19 : FOk RX12 19 12 5 true (tyX12 5) := ⟨RX12, TX12, 30, tyX12, rfl, inX12, tyX12_ok, nmX12, by decide, mt_6 (List.mem_of_getElem? (i := 214) rfl), rfl, rfl, rfl⟩
theorem kf_RX12_22 : FOk RX12 22 12 6 true (tyX12 6) := ⟨RX12, TX12, 30, tyX12, rfl, inX12, tyX12_ok, nmX12, by decide, mt_6 (List.mem_of_getElem? (i := 215) rfl), rfl, rfl, rfl⟩
theorem kf_RX12_26 : FOk RX12 26 12 7 true (tyX12 7) := ⟨RX12, TX12, 30, tyX12, rfl, inX12, tyX12_ok, nmX12, by decide, mt_6 (List.mem_of_getElem? (i := 216) rfl), rfl, rfl, rfl⟩
theorem kf_RX12_29 : FOk RX12 29 12 8 true (tyX12 8) := ⟨RX12, TX12, 30, tyX12, rfl, inX12, tyX12_ok, nmX12, by decide, mt_6 (List.mem_of_getElem? (i := 217) rfl), rfl, rfl, rfl⟩
theorem kf_RX12_32 : FOk RX12 32 12 9 true (tyX12 9) := ⟨RX12, TX12, 30, tyX12, rfl, inX12, tyX12_ok, nmX12, by decide, mt_6 (List.mem_of_getElem? (i := 218) rfl), rfl, rfl, rfl⟩
theorem kf_RX12_35 : FOk RX12 35 12 10 true (tyX12 10) := ⟨RX12, TX12, 30, tyX12, rfl, inX12, tyX12_ok, nmX12, by decide, mt_6 (List.mem_of_getElem? (i := 219) rfl), rfl, rfl, rfl⟩
theorem kf_RX12_38 : FOk RX12 38 12 11 true (tyX12 11) := ⟨RX12, TX12, 30, tyX12, rfl, inX12, tyX12_ok, nmX12, by decide, mt_6 (List.mem_of_getElem? (i := 220) rfl), rfl, rfl, rfl⟩
theorem kf_RX12_41 : FOk RX12 41 12 15 true (tyX12 15) := ⟨RX12, TX12, 30, tyX12, rfl, inX12, tyX12_ok, nmX12, by decide, mt_6 (List.mem_of_getElem? (i := 224) rfl), rfl, rfl, rfl⟩
theorem kf_RX12_44 : FOk RX12 44 12 16 true (tyX12 16) := ⟨RX12, TX12, 30, tyX12, rfl, inX12, tyX12_ok, nmX12, by decide, mt_6 (List.mem_of_getElem? (i := 225) rfl), rfl, rfl, rfl⟩
theorem kf_RX12_47 : FOk RX12 47 12 17 true (tyX12 17) := ⟨RX12, TX12, 30, tyX12, rfl, inX12, tyX12_ok, nmX12, by decide, mt_6 (List.mem_of_getElem? (i := 226) rfl), rfl, rfl, rfl⟩
theorem kf_RX12_50 : FOk RX12 50 12 18 true (tyX12 18) := ⟨RX12, TX12, 30, tyX12, rfl, inX12, tyX12_ok, nmX12, by decide, mt_6 (List.mem_of_getElem? (i := 227) rfl), rfl, rfl, rfl⟩
theorem kf_RX12_53 : FOk RX12 53 12 19 true (tyX12 19) := ⟨RX12, TX12, 30, tyX12, rfl, inX12, tyX12_ok, nmX12, by decide, mt_6 (List.mem_of_getElem? (i := 228) rfl), rfl, rfl, rfl⟩
theorem kf_RX12_56 : FOk RX12 56 12 20 true (tyX12 20) := ⟨RX12, TX12, 30, tyX12, rfl, inX12, tyX12_ok, nmX12, by decide, mt_6 (List.mem_of_getElem? (i := 229) rfl), rfl, rfl, rfl⟩
theorem kf_RX12_59 : FOk RX12 59 12 21 true (tyX12 21) := ⟨RX12, TX12, 30, tyX12, rfl, inX12, tyX12_ok, nmX12, by decide, mt_6 (List.mem_of_getElem? (i := 230) rfl), rfl, rfl, rfl⟩
theorem kf_RX12_62 : FOk RX12 62 12 22 true (tyX12 22) := ⟨RX12, TX12, 30, tyX12, rfl, inX12, tyX12_ok, nmX12, by decide, mt_6 (List.mem_of_getElem? (i := 231) rfl), rfl, rfl, rfl⟩
theorem kf_RX12_65 : FOk RX12 65 12 23 true (tyX12 23) := ⟨RX12, TX12, 30, tyX12, rfl, inX12, tyX12_ok, nmX12, by decide, mt_6 (List.mem_of_getElem? (i := 232) rfl), rfl, rfl, rfl⟩
theorem kf_RX12_68 : FOk RX12 68 12 24 true (tyX12 24) := ⟨RX12, TX12, 30, tyX12, rfl, inX12, tyX12_ok, nmX12, by decide, mt_6 (List.mem_of_getElem? (i := 233) rfl), rfl, rfl, rfl⟩
theorem kf_RX12_71 : FOk RX12 71 12 26 true (tyX12 26) := ⟨RX12, TX12, 30, tyX12, rfl, inX12, tyX12_ok, nmX12, by decide, mt_6 (List.mem_of_getElem? (i := 235) rfl), rfl, rfl, rfl⟩
theorem kf_RX12_74 : FOk RX12 74 12 28 true (tyX12 28) := ⟨RX12, TX12, 30, tyX12, rfl, inX12, tyX12_ok, nmX12, by decide, mt_6 (List.mem_of_getElem? (i := 237) rfl), rfl, rfl, rfl⟩
theorem kf_RX12_77 : FOk RX12 77 12 29 true (tyX12 29) := ⟨RX12, TX12, 30, tyX12, rfl, inX12, tyX12_ok, nmX12, by decide, mt_6 (List.mem_of_getElem? (i := 238) rfl), rfl, rfl, rfl⟩
theorem kf_RX12_95 : FOk RX12 95 12 2 false (tyX12 2) := ⟨RX12, TX12, 30, tyX12, rfl, inX12, tyX12_ok, nmX12, by decide, mt_6 (List.mem_of_getElem? (i := 211) rfl), rfl, rfl, rfl⟩
theorem kf_RX12_99 : FOk RX12 99 12 4 false (tyX12 4) := ⟨RX12, TX12, 30, tyX12, rfl, inX12, tyX12_ok, nmX12, by decide, mt_6 (List.mem_of_getElem? (i := 213) rfl), rfl, rfl, rfl⟩
theorem kf_RX12_173 : FOk RX12 173 12 12 false (tyX12 12) := ⟨RX12, TX12, 30, tyX12, rfl, inX12, tyX12_ok, nmX12, by decide, mt_6 (List.mem_of_getElem? (i := 221) rfl), rfl, rfl, rfl⟩
theorem kf_RX12_182 : FOk RX12 182 12 13 false (tyX12 13) := ⟨RX12, TX12, 30, tyX12, rfl, inX12, tyX12_ok, nmX12, by decide, mt_6 (List.mem_of_getElem? (i := 222) rfl), rfl, rfl, rfl⟩
theorem kf_RX12_185 : FOk RX12 185 12 14 false (tyX12 14) := ⟨RX12, TX12, 30, tyX12, rfl, inX12, tyX12_ok, nmX12, by decide, mt_6 (List.mem_of_getElem? (i := 223) rfl), rfl, rfl, rfl⟩
theorem kf_RX12_243 : FOk RX12 243 12 25 false (tyX12 25) := ⟨RX12, TX12, 30, tyX12, rfl, inX12, tyX12_ok, nmX12, by decide, mt_6 (List.mem_of_getElem? (i := 234) rfl), rfl, rfl, rfl⟩
theorem kf_RX12_308 : FOk RX12 308 12 27 false (tyX12 27) := ⟨RX12, TX12, 30, tyX12, rfl, inX12, tyX12_ok, nmX12, by decide, mt_6 (List.mem_of_getElem? (i := 236) rfl), rfl, rfl, rfl⟩
end
section
theorem km_X0_init : MIk yX0_init cX0_init 1 none 0 := ⟨mt_2 (List.mem_of_getElem? (i := 26) rfl), mt_1 (List.mem_of_getElem? (i := 9) rfl), by decide, by decide, by decide +kernel⟩
theorem km_X0_turnedA : MSk yX0_turnedA cX0_turnedA 6 (some .int) 5 := ⟨⟨mt_4 (List.mem_of_getElem? (i := 227) rfl), mt_1 (List.mem_of_getElem? (i := 9) rfl), by decide, by decide, by decide +kernel⟩, mt_4 (List.mem_of_getElem? (i := 226) rfl)⟩
theorem km_X0_turnedB : MSk yX0_turnedB cX0_turnedB 6 (some .int) 5 := ⟨⟨mt_4 (List.mem_of_getElem? (i := 230) rfl), mt_1 (List.mem_of_getElem? (i := 9) rfl), by decide, by decide, by decide +kernel⟩, mt_4 (List.mem_of_getElem? (i := 229) rfl)⟩
theorem km_X0_originalU : MSk yX0_originalU cX0_originalU 6 (some .int) 4 := ⟨⟨mt_4 (List.mem_of_getElem? (i := 214) rfl), mt_1 (List.mem_of_getElem? (i := 9) rfl), by decide, by decide, by decide +kernel⟩, mt_4 (List.mem_of_getElem? (i := 213) rfl)⟩
theorem km_X0_originalV : MSk yX0_originalV cX0_originalV 5 (some .int) 4 := ⟨⟨mt_4 (List.mem_of_getElem? (i := 220) rfl), mt_1 (List.mem_of_getElem? (i := 9) rfl), by decide, by decide, by decide +kernel⟩, mt_4 (List.mem_of_getElem? (i := 219) rfl)⟩
theorem km_X0_imageU : MSk yX0_imageU cX0_imageU 4 (some .int) 4 := ⟨⟨mt_4 (List.mem_of_getElem? (i := 211) rfl), mt_1 (List.mem_of_getElem? (i := 9) rfl), by decide, by decide, by decide +kernel⟩, mt_4 (List.mem_of_getElem? (i := 210) rfl)⟩
theorem km_X0_imageV : MSk yX0_imageV cX0_imageV 4 (some .int) 4 := ⟨⟨mt_4 (List.mem_of_getElem? (i := 217) rfl), mt_1 (List.mem_of_getElem? (i := 9) rfl), by decide, by decide, by decide +kernel⟩, mt_4 (List.mem_of_getElem? (i := 216) rfl)⟩
theorem km_X0_rightEnd : MSk yX0_rightEnd cX0_rightEnd 3 (some .int) 2 := ⟨⟨mt_4 (List.mem_of_getElem? (i := 159) rfl), mt_1 (List.mem_of_getElem? (i := 9) rfl), by decide, by decide, by decide +kernel⟩, mt_4 (List.mem_of_getElem? (i := 158) rfl)⟩
theorem km_X0_upperEnd : MSk yX0_upperEnd cX0_upperEnd 3 (some .int) 2 := ⟨⟨mt_4 (List.mem_of_getElem? (i := 170) rfl), mt_1 (List.mem_of_getElem? (i := 9) rfl), by decide, by decide, by decide +kernel⟩, mt_4 (List.mem_of_getElem? (i := 169) rfl)⟩
theorem km_X0_shows : MSk yX0_shows cX0_shows 2 (some .boolean) 2 := ⟨⟨mt_6 (List.mem_of_getElem? (i := 88) rfl), mt_1 (List.mem_of_getElem? (i := 9) rfl), by decide, by decide, by decide +kernel⟩, mt_6 (List.mem_of_getElem? (i := 87) rfl)⟩
theorem km_X0_isSeen : MSk yX0_isSeen cX0_isSeen 3 (some .boolean) 3 := ⟨⟨mt_4 (List.mem_of_getElem? (i := 173) rfl), mt_1 (List.mem_of_getElem? (i := 9) rfl), by decide, by decide, by decide +kernel⟩, mt_4 (List.mem_of_getElem? (i := 172) rfl)⟩
theorem km_X0_reachAt : MSk yX0_reachAt cX0_reachAt 6 (some .int) 3 := ⟨⟨mt_4 (List.mem_of_getElem? (i := 156) rfl), mt_1 (List.mem_of_getElem? (i := 9) rfl), by decide, by decide, by decide +kernel⟩, mt_4 (List.mem_of_getElem? (i := 155) rfl)⟩
theorem km_X0_takePoints : MVk yX0_takePoints cX0_takePoints 8 none 1 0 := ⟨⟨mt_4 (List.mem_of_getElem? (i := 177) rfl), mt_1 (List.mem_of_getElem? (i := 9) rfl), by decide, by decide, by decide +kernel⟩, mt_4 (List.mem_of_getElem? (i := 176) rfl), mt_0 (List.mem_of_getElem? (i := 14) rfl), TX0, 11, rfl⟩
theorem km_X0_takePoint : MVk yX0_takePoint cX0_takePoint 4 none 3 0 := ⟨⟨mt_4 (List.mem_of_getElem? (i := 199) rfl), mt_1 (List.mem_of_getElem? (i := 9) rfl), by decide, by decide, by decide +kernel⟩, mt_4 (List.mem_of_getElem? (i := 198) rfl), mt_0 (List.mem_of_getElem? (i := 15) rfl), TX0, 11, rfl⟩
theorem km_X0_takeCoordinates : MVk yX0_takeCoordinates cX0_takeCoordinates 5 none 3 0 := ⟨⟨mt_4 (List.mem_of_getElem? (i := 207) rfl), mt_1 (List.mem_of_getElem? (i := 9) rfl), by decide, by decide, by decide +kernel⟩, mt_4 (List.mem_of_getElem? (i := 206) rfl), mt_0 (List.mem_of_getElem? (i := 16) rfl), TX0, 11, rfl⟩
theorem km_X0_mismatch : MVk yX0_mismatch cX0_mismatch 7 (some .int) 2 0 := ⟨⟨mt_5 (List.mem_of_getElem? (i := 165) rfl), mt_1 (List.mem_of_getElem? (i := 9) rfl), by decide, by decide, by decide +kernel⟩, mt_5 (List.mem_of_getElem? (i := 163) rfl), mt_5 (List.mem_of_getElem? (i := 164) rfl), TX0, 11, rfl⟩
theorem km_X0_plan : MVk yX0_plan cX0_plan 8 (some .boolean) 3 0 := ⟨⟨mt_4 (List.mem_of_getElem? (i := 135) rfl), mt_1 (List.mem_of_getElem? (i := 9) rfl), by decide, by decide, by decide +kernel⟩, mt_4 (List.mem_of_getElem? (i := 133) rfl), mt_4 (List.mem_of_getElem? (i := 134) rfl), TX0, 11, rfl⟩
theorem km_X0_agrees : MVk yX0_agrees cX0_agrees 11 (some .boolean) 3 0 := ⟨⟨mt_4 (List.mem_of_getElem? (i := 224) rfl), mt_1 (List.mem_of_getElem? (i := 9) rfl), by decide, by decide, by decide +kernel⟩, mt_4 (List.mem_of_getElem? (i := 223) rfl), mt_0 (List.mem_of_getElem? (i := 17) rfl), TX0, 11, rfl⟩
theorem km_X0_carryOut : MVk yX0_carryOut cX0_carryOut 2 none 1 0 := ⟨⟨mt_4 (List.mem_of_getElem? (i := 235) rfl), mt_1 (List.mem_of_getElem? (i := 9) rfl), by decide, by decide, by decide +kernel⟩, mt_4 (List.mem_of_getElem? (i := 233) rfl), mt_4 (List.mem_of_getElem? (i := 234) rfl), TX0, 11, rfl⟩
theorem km_X0_spread : MVk yX0_spread cX0_spread 5 (some .int) 2 0 := ⟨⟨mt_5 (List.mem_of_getElem? (i := 5) rfl), mt_1 (List.mem_of_getElem? (i := 9) rfl), by decide, by decide, by decide +kernel⟩, mt_5 (List.mem_of_getElem? (i := 3) rfl), mt_5 (List.mem_of_getElem? (i := 4) rfl), TX0, 11, rfl⟩
theorem km_X0_spreadOnce : MVk yX0_spreadOnce cX0_spreadOnce 9 (some .boolean) 2 0 := ⟨⟨mt_5 (List.mem_of_getElem? (i := 9) rfl), mt_1 (List.mem_of_getElem? (i := 9) rfl), by decide, by decide, by decide +kernel⟩, mt_5 (List.mem_of_getElem? (i := 8) rfl), mt_0 (List.mem_of_getElem? (i := 18) rfl), TX0, 11, rfl⟩
theorem km_X1_init : MIk yX1_init cX1_init 1 none 0 := ⟨mt_1 (List.mem_of_getElem? (i := 231) rfl), mt_1 (List.mem_of_getElem? (i := 6) rfl), by decide, by decide, by decide +kernel⟩
theorem km_X1_creases : MVk yX1_creases cX1_creases 4 (some .int) 1 1 := ⟨⟨mt_5 (List.mem_of_getElem? (i := 90) rfl), mt_1 (List.mem_of_getElem? (i := 6) rfl), by decide, by decide, by decide +kernel⟩, mt_5 (List.mem_of_getElem? (i := 88) rfl), mt_5 (List.mem_of_getElem? (i := 89) rfl), TX1, 2, rfl⟩
theorem km_X1_cuts : MVk yX1_cuts cX1_cuts 5 (some .int) 1 1 := ⟨⟨mt_5 (List.mem_of_getElem? (i := 52) rfl), mt_1 (List.mem_of_getElem? (i := 6) rfl), by decide, by decide, by decide +kernel⟩, mt_5 (List.mem_of_getElem? (i := 50) rfl), mt_5 (List.mem_of_getElem? (i := 51) rfl), TX1, 2, rfl⟩
theorem km_X1_newLine : MVk yX1_newLine cX1_newLine 9 (some .int) 3 1 := ⟨⟨mt_5 (List.mem_of_getElem? (i := 56) rfl), mt_1 (List.mem_of_getElem? (i := 6) rfl), by decide, by decide, by decide +kernel⟩, mt_5 (List.mem_of_getElem? (i := 55) rfl), mt_0 (List.mem_of_getElem? (i := 19) rfl), TX1, 2, rfl⟩
theorem km_X1_lineOf : MSk yX1_lineOf cX1_lineOf 3 (some .int) 2 := ⟨⟨mt_5 (List.mem_of_getElem? (i := 60) rfl), mt_1 (List.mem_of_getElem? (i := 6) rfl), by decide, by decide, by decide +kernel⟩, mt_5 (List.mem_of_getElem? (i := 59) rfl)⟩
theorem km_X1_copiesInRow : MVk yX1_copiesInRow cX1_copiesInRow 6 (some .int) 3 1 := ⟨⟨mt_5 (List.mem_of_getElem? (i := 131) rfl), mt_1 (List.mem_of_getElem? (i := 6) rfl), by decide, by decide, by decide +kernel⟩, mt_5 (List.mem_of_getElem? (i := 129) rfl), mt_5 (List.mem_of_getElem? (i := 130) rfl), TX1, 2, rfl⟩
theorem km_X1_smallest : MSk yX1_smallest cX1_smallest 4 (some .int) 2 := ⟨⟨mt_5 (List.mem_of_getElem? (i := 105) rfl), mt_1 (List.mem_of_getElem? (i := 6) rfl), by decide, by decide, by decide +kernel⟩, mt_5 (List.mem_of_getElem? (i := 104) rfl)⟩
theorem km_X1_greatest : MSk yX1_greatest cX1_greatest 4 (some .int) 2 := ⟨⟨mt_5 (List.mem_of_getElem? (i := 109) rfl), mt_1 (List.mem_of_getElem? (i := 6) rfl), by decide, by decide, by decide +kernel⟩, mt_5 (List.mem_of_getElem? (i := 108) rfl)⟩
theorem km_X1_leastPitch : MVk yX1_leastPitch cX1_leastPitch 15 (some .int) 4 1 := ⟨⟨mt_5 (List.mem_of_getElem? (i := 102) rfl), mt_1 (List.mem_of_getElem? (i := 6) rfl), by decide, by decide, by decide +kernel⟩, mt_5 (List.mem_of_getElem? (i := 100) rfl), mt_5 (List.mem_of_getElem? (i := 101) rfl), TX1, 2, rfl⟩
theorem km_X1_take : MVk yX1_take cX1_take 4 none 2 1 := ⟨⟨mt_5 (List.mem_of_getElem? (i := 119) rfl), mt_1 (List.mem_of_getElem? (i := 6) rfl), by decide, by decide, by decide +kernel⟩, mt_5 (List.mem_of_getElem? (i := 118) rfl), mt_0 (List.mem_of_getElem? (i := 21) rfl), TX1, 2, rfl⟩
theorem km_X1_isFree : MVk yX1_isFree cX1_isFree 4 (some .boolean) 2 1 := ⟨⟨mt_5 (List.mem_of_getElem? (i := 123) rfl), mt_1 (List.mem_of_getElem? (i := 6) rfl), by decide, by decide, by decide +kernel⟩, mt_5 (List.mem_of_getElem? (i := 122) rfl), mt_0 (List.mem_of_getElem? (i := 22) rfl), TX1, 2, rfl⟩
theorem km_X2_init : MIk yX2_init cX2_init 1 none 0 := ⟨mt_1 (List.mem_of_getElem? (i := 237) rfl), mt_1 (List.mem_of_getElem? (i := 7) rfl), by decide, by decide, by decide +kernel⟩
theorem km_X2_empty : MVk yX2_empty cX2_empty 1 none 0 2 := ⟨⟨mt_5 (List.mem_of_getElem? (i := 72) rfl), mt_1 (List.mem_of_getElem? (i := 7) rfl), by decide, by decide, by decide +kernel⟩, mt_5 (List.mem_of_getElem? (i := 70) rfl), mt_5 (List.mem_of_getElem? (i := 71) rfl), TX2, 3, rfl⟩
theorem km_X2_add : MVk yX2_add cX2_add 4 none 2 2 := ⟨⟨mt_5 (List.mem_of_getElem? (i := 76) rfl), mt_1 (List.mem_of_getElem? (i := 7) rfl), by decide, by decide, by decide +kernel⟩, mt_5 (List.mem_of_getElem? (i := 74) rfl), mt_5 (List.mem_of_getElem? (i := 75) rfl), TX2, 3, rfl⟩
theorem km_X2_uncovered : MVk yX2_uncovered cX2_uncovered 6 (some .int) 2 2 := ⟨⟨mt_5 (List.mem_of_getElem? (i := 80) rfl), mt_1 (List.mem_of_getElem? (i := 7) rfl), by decide, by decide, by decide +kernel⟩, mt_5 (List.mem_of_getElem? (i := 78) rfl), mt_5 (List.mem_of_getElem? (i := 79) rfl), TX2, 3, rfl⟩
theorem km_X3_init : MIk yX3_init cX3_init 2 none 0 := ⟨mt_1 (List.mem_of_getElem? (i := 27) rfl), mt_1 (List.mem_of_getElem? (i := 2) rfl), by decide, by decide, by decide +kernel⟩
theorem km_X3_empty : MVk yX3_empty cX3_empty 2 none 0 3 := ⟨⟨mt_3 (List.mem_of_getElem? (i := 46) rfl), mt_1 (List.mem_of_getElem? (i := 2) rfl), by decide, by decide, by decide +kernel⟩, mt_3 (List.mem_of_getElem? (i := 44) rfl), mt_3 (List.mem_of_getElem? (i := 45) rfl), TX3, 7, rfl⟩
theorem km_X3_become : MVk yX3_become cX3_become 3 none 1 3 := ⟨⟨mt_3 (List.mem_of_getElem? (i := 192) rfl), mt_1 (List.mem_of_getElem? (i := 2) rfl), by decide, by decide, by decide +kernel⟩, mt_3 (List.mem_of_getElem? (i := 190) rfl), mt_3 (List.mem_of_getElem? (i := 191) rfl), TX3, 7, rfl⟩
theorem km_X3_panelAt : MVk yX3_panelAt cX3_panelAt 2 (some (.object "DieLineChecker$Panel")) 1 3 := ⟨⟨mt_3 (List.mem_of_getElem? (i := 84) rfl), mt_1 (List.mem_of_getElem? (i := 2) rfl), by decide, by decide, by decide +kernel⟩, mt_3 (List.mem_of_getElem? (i := 82) rfl), mt_3 (List.mem_of_getElem? (i := 83) rfl), TX3, 7, rfl⟩
theorem km_X3_has : MVk yX3_has cX3_has 2 (some .boolean) 1 3 := ⟨⟨mt_3 (List.mem_of_getElem? (i := 118) rfl), mt_1 (List.mem_of_getElem? (i := 2) rfl), by decide, by decide, by decide +kernel⟩, mt_3 (List.mem_of_getElem? (i := 116) rfl), mt_3 (List.mem_of_getElem? (i := 117) rfl), TX3, 7, rfl⟩
theorem km_X3_hangs : MVk yX3_hangs cX3_hangs 2 (some .boolean) 1 3 := ⟨⟨mt_3 (List.mem_of_getElem? (i := 157) rfl), mt_1 (List.mem_of_getElem? (i := 2) rfl), by decide, by decide, by decide +kernel⟩, mt_3 (List.mem_of_getElem? (i := 155) rfl), mt_3 (List.mem_of_getElem? (i := 156) rfl), TX3, 7, rfl⟩
theorem km_X3_hasImage : MVk yX3_hasImage cX3_hasImage 2 (some .boolean) 1 3 := ⟨⟨mt_3 (List.mem_of_getElem? (i := 173) rfl), mt_1 (List.mem_of_getElem? (i := 2) rfl), by decide, by decide, by decide +kernel⟩, mt_3 (List.mem_of_getElem? (i := 171) rfl), mt_3 (List.mem_of_getElem? (i := 172) rfl), TX3, 7, rfl⟩
theorem km_X3_imageWidthOf : MVk yX3_imageWidthOf cX3_imageWidthOf 2 (some .int) 1 3 := ⟨⟨mt_4 (List.mem_of_getElem? (i := 163) rfl), mt_1 (List.mem_of_getElem? (i := 2) rfl), by decide, by decide, by decide +kernel⟩, mt_4 (List.mem_of_getElem? (i := 161) rfl), mt_4 (List.mem_of_getElem? (i := 162) rfl), TX3, 7, rfl⟩
theorem km_X3_imageHeightOf : MVk yX3_imageHeightOf cX3_imageHeightOf 2 (some .int) 1 3 := ⟨⟨mt_4 (List.mem_of_getElem? (i := 167) rfl), mt_1 (List.mem_of_getElem? (i := 2) rfl), by decide, by decide, by decide +kernel⟩, mt_4 (List.mem_of_getElem? (i := 165) rfl), mt_4 (List.mem_of_getElem? (i := 166) rfl), TX3, 7, rfl⟩
theorem km_X3_sheetFault : MVk yX3_sheetFault cX3_sheetFault 5 (some .int) 2 3 := ⟨⟨mt_3 (List.mem_of_getElem? (i := 80) rfl), mt_1 (List.mem_of_getElem? (i := 2) rfl), by decide, by decide, by decide +kernel⟩, mt_3 (List.mem_of_getElem? (i := 78) rfl), mt_3 (List.mem_of_getElem? (i := 79) rfl), TX3, 7, rfl⟩
theorem km_X3_changeSheet : MVk yX3_changeSheet cX3_changeSheet 4 (some .int) 2 3 := ⟨⟨mt_3 (List.mem_of_getElem? (i := 88) rfl), mt_1 (List.mem_of_getElem? (i := 2) rfl), by decide, by decide, by decide +kernel⟩, mt_3 (List.mem_of_getElem? (i := 86) rfl), mt_3 (List.mem_of_getElem? (i := 87) rfl), TX3, 7, rfl⟩
theorem km_X3_baseFault : MVk yX3_baseFault cX3_baseFault 5 (some .int) 4 3 := ⟨⟨mt_3 (List.mem_of_getElem? (i := 92) rfl), mt_1 (List.mem_of_getElem? (i := 2) rfl), by decide, by decide, by decide +kernel⟩, mt_3 (List.mem_of_getElem? (i := 90) rfl), mt_3 (List.mem_of_getElem? (i := 91) rfl), TX3, 7, rfl⟩
theorem km_X3_startBase : MVk yX3_startBase cX3_startBase 7 (some .int) 4 3 := ⟨⟨mt_3 (List.mem_of_getElem? (i := 102) rfl), mt_1 (List.mem_of_getElem? (i := 2) rfl), by decide, by decide, by decide +kernel⟩, mt_3 (List.mem_of_getElem? (i := 100) rfl), mt_3 (List.mem_of_getElem? (i := 101) rfl), TX3, 7, rfl⟩
theorem km_X3_hangFault : MVk yX3_hangFault cX3_hangFault 7 (some .int) 6 3 := ⟨⟨mt_3 (List.mem_of_getElem? (i := 114) rfl), mt_1 (List.mem_of_getElem? (i := 2) rfl), by decide, by decide, by decide +kernel⟩, mt_3 (List.mem_of_getElem? (i := 112) rfl), mt_3 (List.mem_of_getElem? (i := 113) rfl), TX3, 7, rfl⟩
theorem km_X3_hang : MVk yX3_hang cX3_hang 7 (some .int) 6 3 := ⟨⟨mt_3 (List.mem_of_getElem? (i := 144) rfl), mt_1 (List.mem_of_getElem? (i := 2) rfl), by decide, by decide, by decide +kernel⟩, mt_3 (List.mem_of_getElem? (i := 142) rfl), mt_3 (List.mem_of_getElem? (i := 143) rfl), TX3, 7, rfl⟩
theorem km_X3_draft : MVk yX3_draft cX3_draft 8 none 6 3 := ⟨⟨mt_3 (List.mem_of_getElem? (i := 125) rfl), mt_1 (List.mem_of_getElem? (i := 2) rfl), by decide, by decide, by decide +kernel⟩, mt_3 (List.mem_of_getElem? (i := 124) rfl), mt_0 (List.mem_of_getElem? (i := 7) rfl), TX3, 7, rfl⟩
theorem km_X3_layOut : MSk yX3_layOut cX3_layOut 3 none 2 := ⟨⟨mt_3 (List.mem_of_getElem? (i := 128) rfl), mt_1 (List.mem_of_getElem? (i := 2) rfl), by decide, by decide, by decide +kernel⟩, mt_3 (List.mem_of_getElem? (i := 127) rfl)⟩
theorem km_X3_layOutAll : MVk yX3_layOutAll cX3_layOutAll 3 none 0 3 := ⟨⟨mt_4 (List.mem_of_getElem? (i := 28) rfl), mt_1 (List.mem_of_getElem? (i := 2) rfl), by decide, by decide, by decide +kernel⟩, mt_4 (List.mem_of_getElem? (i := 26) rfl), mt_4 (List.mem_of_getElem? (i := 27) rfl), TX3, 7, rfl⟩
theorem km_X3_fits : MVk yX3_fits cX3_fits 4 (some .boolean) 1 3 := ⟨⟨mt_3 (List.mem_of_getElem? (i := 132) rfl), mt_1 (List.mem_of_getElem? (i := 2) rfl), by decide, by decide, by decide +kernel⟩, mt_3 (List.mem_of_getElem? (i := 131) rfl), mt_0 (List.mem_of_getElem? (i := 8) rfl), TX3, 7, rfl⟩
theorem km_X3_isValid : MVk yX3_isValid cX3_isValid 2 (some .boolean) 0 3 := ⟨⟨mt_4 (List.mem_of_getElem? (i := 32) rfl), mt_1 (List.mem_of_getElem? (i := 2) rfl), by decide, by decide, by decide +kernel⟩, mt_4 (List.mem_of_getElem? (i := 30) rfl), mt_4 (List.mem_of_getElem? (i := 31) rfl), TX3, 7, rfl⟩
theorem km_X3_dropFault : MVk yX3_dropFault cX3_dropFault 2 (some .int) 0 3 := ⟨⟨mt_3 (List.mem_of_getElem? (i := 238) rfl), mt_1 (List.mem_of_getElem? (i := 2) rfl), by decide, by decide, by decide +kernel⟩, mt_3 (List.mem_of_getElem? (i := 236) rfl), mt_3 (List.mem_of_getElem? (i := 237) rfl), TX3, 7, rfl⟩
theorem km_X3_dropLast : MVk yX3_dropLast cX3_dropLast 1 (some .int) 0 3 := ⟨⟨mt_4 (List.mem_of_getElem? (i := 2) rfl), mt_1 (List.mem_of_getElem? (i := 2) rfl), by decide, by decide, by decide +kernel⟩, mt_4 (List.mem_of_getElem? (i := 0) rfl), mt_4 (List.mem_of_getElem? (i := 1) rfl), TX3, 7, rfl⟩
theorem km_X3_turnFold : MVk yX3_turnFold cX3_turnFold 5 (some .int) 2 3 := ⟨⟨mt_4 (List.mem_of_getElem? (i := 12) rfl), mt_1 (List.mem_of_getElem? (i := 2) rfl), by decide, by decide, by decide +kernel⟩, mt_4 (List.mem_of_getElem? (i := 10) rfl), mt_4 (List.mem_of_getElem? (i := 11) rfl), TX3, 7, rfl⟩
theorem km_X3_sizeFault : MVk yX3_sizeFault cX3_sizeFault 6 (some .int) 3 3 := ⟨⟨mt_4 (List.mem_of_getElem? (i := 20) rfl), mt_1 (List.mem_of_getElem? (i := 2) rfl), by decide, by decide, by decide +kernel⟩, mt_4 (List.mem_of_getElem? (i := 18) rfl), mt_4 (List.mem_of_getElem? (i := 19) rfl), TX3, 7, rfl⟩
theorem km_X3_changeSize : MVk yX3_changeSize cX3_changeSize 6 (some .int) 3 3 := ⟨⟨mt_4 (List.mem_of_getElem? (i := 24) rfl), mt_1 (List.mem_of_getElem? (i := 2) rfl), by decide, by decide, by decide +kernel⟩, mt_4 (List.mem_of_getElem? (i := 22) rfl), mt_4 (List.mem_of_getElem? (i := 23) rfl), TX3, 7, rfl⟩
theorem km_X3_flapFault : MVk yX3_flapFault cX3_flapFault 4 (some .int) 2 3 := ⟨⟨mt_3 (List.mem_of_getElem? (i := 153) rfl), mt_1 (List.mem_of_getElem? (i := 2) rfl), by decide, by decide, by decide +kernel⟩, mt_3 (List.mem_of_getElem? (i := 151) rfl), mt_3 (List.mem_of_getElem? (i := 152) rfl), TX3, 7, rfl⟩
theorem km_X3_changeTarget : MVk yX3_changeTarget cX3_changeTarget 5 (some .int) 2 3 := ⟨⟨mt_3 (List.mem_of_getElem? (i := 161) rfl), mt_1 (List.mem_of_getElem? (i := 2) rfl), by decide, by decide, by decide +kernel⟩, mt_3 (List.mem_of_getElem? (i := 159) rfl), mt_3 (List.mem_of_getElem? (i := 160) rfl), TX3, 7, rfl⟩
theorem km_X3_imageFault : MVk yX3_imageFault cX3_imageFault 4 (some .int) 3 3 := ⟨⟨mt_3 (List.mem_of_getElem? (i := 165) rfl), mt_1 (List.mem_of_getElem? (i := 2) rfl), by decide, by decide, by decide +kernel⟩, mt_3 (List.mem_of_getElem? (i := 163) rfl), mt_3 (List.mem_of_getElem? (i := 164) rfl), TX3, 7, rfl⟩
theorem km_X3_changeImage : MVk yX3_changeImage cX3_changeImage 5 (some .int) 3 3 := ⟨⟨mt_3 (List.mem_of_getElem? (i := 169) rfl), mt_1 (List.mem_of_getElem? (i := 2) rfl), by decide, by decide, by decide +kernel⟩, mt_3 (List.mem_of_getElem? (i := 167) rfl), mt_3 (List.mem_of_getElem? (i := 168) rfl), TX3, 7, rfl⟩
theorem km_X3_printFault : MVk yX3_printFault cX3_printFault 6 (some .int) 5 3 := ⟨⟨mt_3 (List.mem_of_getElem? (i := 181) rfl), mt_1 (List.mem_of_getElem? (i := 2) rfl), by decide, by decide, by decide +kernel⟩, mt_3 (List.mem_of_getElem? (i := 179) rfl), mt_3 (List.mem_of_getElem? (i := 180) rfl), TX3, 7, rfl⟩
theorem km_X3_print : MVk yX3_print cX3_print 8 (some .int) 5 3 := ⟨⟨mt_3 (List.mem_of_getElem? (i := 188) rfl), mt_1 (List.mem_of_getElem? (i := 2) rfl), by decide, by decide, by decide +kernel⟩, mt_3 (List.mem_of_getElem? (i := 186) rfl), mt_3 (List.mem_of_getElem? (i := 187) rfl), TX3, 7, rfl⟩
theorem km_X3_bareFault : MVk yX3_bareFault cX3_bareFault 2 (some .int) 1 3 := ⟨⟨mt_4 (List.mem_of_getElem? (i := 59) rfl), mt_1 (List.mem_of_getElem? (i := 2) rfl), by decide, by decide, by decide +kernel⟩, mt_4 (List.mem_of_getElem? (i := 57) rfl), mt_4 (List.mem_of_getElem? (i := 58) rfl), TX3, 7, rfl⟩
theorem km_X3_wipe : MVk yX3_wipe cX3_wipe 4 (some .int) 1 3 := ⟨⟨mt_4 (List.mem_of_getElem? (i := 63) rfl), mt_1 (List.mem_of_getElem? (i := 2) rfl), by decide, by decide, by decide +kernel⟩, mt_4 (List.mem_of_getElem? (i := 61) rfl), mt_4 (List.mem_of_getElem? (i := 62) rfl), TX3, 7, rfl⟩
theorem km_X3_foldedPanels : MVk yX3_foldedPanels cX3_foldedPanels 3 (some .int) 0 3 := ⟨⟨mt_6 (List.mem_of_getElem? (i := 189) rfl), mt_1 (List.mem_of_getElem? (i := 2) rfl), by decide, by decide, by decide +kernel⟩, mt_6 (List.mem_of_getElem? (i := 187) rfl), mt_6 (List.mem_of_getElem? (i := 188) rfl), TX3, 7, rfl⟩
theorem km_X3_flaps : MVk yX3_flaps cX3_flaps 3 (some .int) 0 3 := ⟨⟨mt_6 (List.mem_of_getElem? (i := 193) rfl), mt_1 (List.mem_of_getElem? (i := 2) rfl), by decide, by decide, by decide +kernel⟩, mt_6 (List.mem_of_getElem? (i := 191) rfl), mt_6 (List.mem_of_getElem? (i := 192) rfl), TX3, 7, rfl⟩
theorem km_X3_definedImages : MVk yX3_definedImages cX3_definedImages 3 (some .int) 0 3 := ⟨⟨mt_6 (List.mem_of_getElem? (i := 198) rfl), mt_1 (List.mem_of_getElem? (i := 2) rfl), by decide, by decide, by decide +kernel⟩, mt_6 (List.mem_of_getElem? (i := 196) rfl), mt_6 (List.mem_of_getElem? (i := 197) rfl), TX3, 7, rfl⟩
theorem km_X3_isAllFolds : MVk yX3_isAllFolds cX3_isAllFolds 6 (some .boolean) 2 3 := ⟨⟨mt_6 (List.mem_of_getElem? (i := 109) rfl), mt_1 (List.mem_of_getElem? (i := 2) rfl), by decide, by decide, by decide +kernel⟩, mt_6 (List.mem_of_getElem? (i := 107) rfl), mt_6 (List.mem_of_getElem? (i := 108) rfl), TX3, 7, rfl⟩
theorem km_X4_init : MIk yX4_init cX4_init 1 none 0 := ⟨mt_2 (List.mem_of_getElem? (i := 20) rfl), mt_1 (List.mem_of_getElem? (i := 8) rfl), by decide, by decide, by decide +kernel⟩
theorem km_X4_limit : MVk yX4_limit cX4_limit 2 (some .int) 1 4 := ⟨⟨mt_6 (List.mem_of_getElem? (i := 8) rfl), mt_1 (List.mem_of_getElem? (i := 8) rfl), by decide, by decide, by decide +kernel⟩, mt_6 (List.mem_of_getElem? (i := 7) rfl), mt_0 (List.mem_of_getElem? (i := 24) rfl), TX4, 8, rfl⟩
theorem km_X4_weight : MVk yX4_weight cX4_weight 2 (some .int) 1 4 := ⟨⟨mt_6 (List.mem_of_getElem? (i := 79) rfl), mt_1 (List.mem_of_getElem? (i := 8) rfl), by decide, by decide, by decide +kernel⟩, mt_6 (List.mem_of_getElem? (i := 78) rfl), mt_0 (List.mem_of_getElem? (i := 28) rfl), TX4, 8, rfl⟩
theorem km_X4_collect : MVk yX4_collect cX4_collect 4 none 1 4 := ⟨⟨mt_6 (List.mem_of_getElem? (i := 65) rfl), mt_1 (List.mem_of_getElem? (i := 8) rfl), by decide, by decide, by decide +kernel⟩, mt_6 (List.mem_of_getElem? (i := 63) rfl), mt_6 (List.mem_of_getElem? (i := 64) rfl), TX4, 8, rfl⟩
theorem km_X4_add : MVk yX4_add cX4_add 11 none 5 4 := ⟨⟨mt_6 (List.mem_of_getElem? (i := 75) rfl), mt_1 (List.mem_of_getElem? (i := 8) rfl), by decide, by decide, by decide +kernel⟩, mt_6 (List.mem_of_getElem? (i := 74) rfl), mt_0 (List.mem_of_getElem? (i := 27) rfl), TX4, 8, rfl⟩
theorem km_X4_collectOpen : MVk yX4_collectOpen cX4_collectOpen 3 none 1 4 := ⟨⟨mt_6 (List.mem_of_getElem? (i := 100) rfl), mt_1 (List.mem_of_getElem? (i := 8) rfl), by decide, by decide, by decide +kernel⟩, mt_6 (List.mem_of_getElem? (i := 99) rfl), mt_0 (List.mem_of_getElem? (i := 30) rfl), TX4, 8, rfl⟩
theorem km_X4_collectPairs : MVk yX4_collectPairs cX4_collectPairs 5 none 1 4 := ⟨⟨mt_6 (List.mem_of_getElem? (i := 70) rfl), mt_1 (List.mem_of_getElem? (i := 8) rfl), by decide, by decide, by decide +kernel⟩, mt_6 (List.mem_of_getElem? (i := 69) rfl), mt_0 (List.mem_of_getElem? (i := 26) rfl), TX4, 8, rfl⟩
theorem km_X4_collectFlap : MVk yX4_collectFlap cX4_collectFlap 5 none 2 4 := ⟨⟨mt_6 (List.mem_of_getElem? (i := 85) rfl), mt_1 (List.mem_of_getElem? (i := 8) rfl), by decide, by decide, by decide +kernel⟩, mt_6 (List.mem_of_getElem? (i := 84) rfl), mt_0 (List.mem_of_getElem? (i := 29) rfl), TX4, 8, rfl⟩
theorem km_X4_inkDistance : MSk yX4_inkDistance cX4_inkDistance 2 (some .int) 2 := ⟨⟨mt_6 (List.mem_of_getElem? (i := 91) rfl), mt_1 (List.mem_of_getElem? (i := 8) rfl), by decide, by decide, by decide +kernel⟩, mt_6 (List.mem_of_getElem? (i := 90) rfl)⟩
theorem km_X4_collectPrint : MVk yX4_collectPrint cX4_collectPrint 7 none 2 4 := ⟨⟨mt_6 (List.mem_of_getElem? (i := 104) rfl), mt_1 (List.mem_of_getElem? (i := 8) rfl), by decide, by decide, by decide +kernel⟩, mt_6 (List.mem_of_getElem? (i := 103) rfl), mt_0 (List.mem_of_getElem? (i := 31) rfl), TX4, 8, rfl⟩
theorem km_X4_beyondSheet : MSk yX4_beyondSheet cX4_beyondSheet 4 (some .int) 4 := ⟨⟨mt_6 (List.mem_of_getElem? (i := 114) rfl), mt_1 (List.mem_of_getElem? (i := 8) rfl), by decide, by decide, by decide +kernel⟩, mt_6 (List.mem_of_getElem? (i := 113) rfl)⟩
theorem km_X4_collectIntrusions : MVk yX4_collectIntrusions cX4_collectIntrusions 18 none 4 4 := ⟨⟨mt_6 (List.mem_of_getElem? (i := 118) rfl), mt_1 (List.mem_of_getElem? (i := 8) rfl), by decide, by decide, by decide +kernel⟩, mt_6 (List.mem_of_getElem? (i := 117) rfl), mt_0 (List.mem_of_getElem? (i := 32) rfl), TX4, 8, rfl⟩
theorem km_X4_collectBreaks : MVk yX4_collectBreaks cX4_collectBreaks 4 none 1 4 := ⟨⟨mt_6 (List.mem_of_getElem? (i := 126) rfl), mt_1 (List.mem_of_getElem? (i := 8) rfl), by decide, by decide, by decide +kernel⟩, mt_6 (List.mem_of_getElem? (i := 125) rfl), mt_0 (List.mem_of_getElem? (i := 33) rfl), TX4, 8, rfl⟩
theorem km_X4_anyOpen : MVk yX4_anyOpen cX4_anyOpen 4 (some .boolean) 1 4 := ⟨⟨mt_5 (List.mem_of_getElem? (i := 222) rfl), mt_1 (List.mem_of_getElem? (i := 8) rfl), by decide, by decide, by decide +kernel⟩, mt_5 (List.mem_of_getElem? (i := 220) rfl), mt_5 (List.mem_of_getElem? (i := 221) rfl), TX4, 8, rfl⟩
theorem km_X4_isClosed : MVk yX4_isClosed cX4_isClosed 4 (some .boolean) 2 4 := ⟨⟨mt_6 (List.mem_of_getElem? (i := 3) rfl), mt_1 (List.mem_of_getElem? (i := 8) rfl), by decide, by decide, by decide +kernel⟩, mt_6 (List.mem_of_getElem? (i := 1) rfl), mt_6 (List.mem_of_getElem? (i := 2) rfl), TX4, 8, rfl⟩
theorem km_X4_sort : MVk yX4_sort cX4_sort 6 none 0 4 := ⟨⟨mt_6 (List.mem_of_getElem? (i := 138) rfl), mt_1 (List.mem_of_getElem? (i := 8) rfl), by decide, by decide, by decide +kernel⟩, mt_6 (List.mem_of_getElem? (i := 136) rfl), mt_6 (List.mem_of_getElem? (i := 137) rfl), TX4, 8, rfl⟩
theorem km_X4_kindOf : MSk yX4_kindOf cX4_kindOf 2 (some .int) 1 := ⟨⟨mt_6 (List.mem_of_getElem? (i := 145) rfl), mt_1 (List.mem_of_getElem? (i := 8) rfl), by decide, by decide, by decide +kernel⟩, mt_6 (List.mem_of_getElem? (i := 144) rfl)⟩
theorem km_X4_panelOf : MSk yX4_panelOf cX4_panelOf 2 (some .int) 1 := ⟨⟨mt_6 (List.mem_of_getElem? (i := 148) rfl), mt_1 (List.mem_of_getElem? (i := 8) rfl), by decide, by decide, by decide +kernel⟩, mt_6 (List.mem_of_getElem? (i := 147) rfl)⟩
theorem km_X4_sideOf : MSk yX4_sideOf cX4_sideOf 3 (some .int) 1 := ⟨⟨mt_6 (List.mem_of_getElem? (i := 151) rfl), mt_1 (List.mem_of_getElem? (i := 8) rfl), by decide, by decide, by decide +kernel⟩, mt_6 (List.mem_of_getElem? (i := 150) rfl)⟩
theorem km_X4_otherOf : MSk yX4_otherOf cX4_otherOf 3 (some .int) 1 := ⟨⟨mt_6 (List.mem_of_getElem? (i := 154) rfl), mt_1 (List.mem_of_getElem? (i := 8) rfl), by decide, by decide, by decide +kernel⟩, mt_6 (List.mem_of_getElem? (i := 153) rfl)⟩
theorem km_X4_costOf : MSk yX4_costOf cX4_costOf 2 (some .int) 1 := ⟨⟨mt_6 (List.mem_of_getElem? (i := 157) rfl), mt_1 (List.mem_of_getElem? (i := 8) rfl), by decide, by decide, by decide +kernel⟩, mt_6 (List.mem_of_getElem? (i := 156) rfl)⟩
theorem km_X4_value : MVk yX4_value cX4_value 6 (some .int) 2 4 := ⟨⟨mt_6 (List.mem_of_getElem? (i := 142) rfl), mt_1 (List.mem_of_getElem? (i := 8) rfl), by decide, by decide, by decide +kernel⟩, mt_6 (List.mem_of_getElem? (i := 140) rfl), mt_6 (List.mem_of_getElem? (i := 141) rfl), TX4, 8, rfl⟩
theorem km_X4_sumAbout : MVk yX4_sumAbout cX4_sumAbout 5 (some .long) 1 4 := ⟨⟨mt_6 (List.mem_of_getElem? (i := 170) rfl), mt_1 (List.mem_of_getElem? (i := 8) rfl), by decide, by decide, by decide +kernel⟩, mt_6 (List.mem_of_getElem? (i := 168) rfl), mt_6 (List.mem_of_getElem? (i := 169) rfl), TX4, 8, rfl⟩
theorem km_X5_init : MIk yX5_init cX5_init 2 none 0 := ⟨mt_2 (List.mem_of_getElem? (i := 38) rfl), mt_1 (List.mem_of_getElem? (i := 11) rfl), by decide, by decide, by decide +kernel⟩
theorem km_X5_poseAt : MVk yX5_poseAt cX5_poseAt 2 (some (.object "DieLineChecker$Pose")) 1 5 := ⟨⟨mt_4 (List.mem_of_getElem? (i := 79) rfl), mt_1 (List.mem_of_getElem? (i := 11) rfl), by decide, by decide, by decide +kernel⟩, mt_4 (List.mem_of_getElem? (i := 77) rfl), mt_4 (List.mem_of_getElem? (i := 78) rfl), TX5, 5, rfl⟩
theorem km_X5_orderAt : MVk yX5_orderAt cX5_orderAt 2 (some .int) 1 5 := ⟨⟨mt_6 (List.mem_of_getElem? (i := 45) rfl), mt_1 (List.mem_of_getElem? (i := 11) rfl), by decide, by decide, by decide +kernel⟩, mt_6 (List.mem_of_getElem? (i := 43) rfl), mt_6 (List.mem_of_getElem? (i := 44) rfl), TX5, 5, rfl⟩
theorem km_X5_fold : MVk yX5_fold cX5_fold 6 none 2 5 := ⟨⟨mt_4 (List.mem_of_getElem? (i := 75) rfl), mt_1 (List.mem_of_getElem? (i := 11) rfl), by decide, by decide, by decide +kernel⟩, mt_4 (List.mem_of_getElem? (i := 73) rfl), mt_4 (List.mem_of_getElem? (i := 74) rfl), TX5, 5, rfl⟩
theorem km_X5_crossing : MVk yX5_crossing cX5_crossing 8 (some .int) 3 5 := ⟨⟨mt_6 (List.mem_of_getElem? (i := 22) rfl), mt_1 (List.mem_of_getElem? (i := 11) rfl), by decide, by decide, by decide +kernel⟩, mt_6 (List.mem_of_getElem? (i := 20) rfl), mt_6 (List.mem_of_getElem? (i := 21) rfl), TX5, 5, rfl⟩
theorem km_X5_crossingPairs : MVk yX5_crossingPairs cX5_crossingPairs 5 (some .int) 1 5 := ⟨⟨mt_6 (List.mem_of_getElem? (i := 18) rfl), mt_1 (List.mem_of_getElem? (i := 11) rfl), by decide, by decide, by decide +kernel⟩, mt_6 (List.mem_of_getElem? (i := 16) rfl), mt_6 (List.mem_of_getElem? (i := 17) rfl), TX5, 5, rfl⟩
theorem km_X5_doubled : MVk yX5_doubled cX5_doubled 9 (some .int) 3 5 := ⟨⟨mt_5 (List.mem_of_getElem? (i := 200) rfl), mt_1 (List.mem_of_getElem? (i := 11) rfl), by decide, by decide, by decide +kernel⟩, mt_5 (List.mem_of_getElem? (i := 198) rfl), mt_5 (List.mem_of_getElem? (i := 199) rfl), TX5, 5, rfl⟩
theorem km_X5_covered : MVk yX5_covered cX5_covered 6 (some .int) 3 5 := ⟨⟨mt_5 (List.mem_of_getElem? (i := 196) rfl), mt_1 (List.mem_of_getElem? (i := 11) rfl), by decide, by decide, by decide +kernel⟩, mt_5 (List.mem_of_getElem? (i := 194) rfl), mt_5 (List.mem_of_getElem? (i := 195) rfl), TX5, 5, rfl⟩
theorem km_X5_enclosed : MVk yX5_enclosed cX5_enclosed 9 (some .long) 1 5 := ⟨⟨mt_5 (List.mem_of_getElem? (i := 230) rfl), mt_1 (List.mem_of_getElem? (i := 11) rfl), by decide, by decide, by decide +kernel⟩, mt_5 (List.mem_of_getElem? (i := 228) rfl), mt_5 (List.mem_of_getElem? (i := 229) rfl), TX5, 5, rfl⟩
theorem km_X5_findOrder : MVk yX5_findOrder cX5_findOrder 8 (some .int) 2 5 := ⟨⟨mt_6 (List.mem_of_getElem? (i := 35) rfl), mt_1 (List.mem_of_getElem? (i := 11) rfl), by decide, by decide, by decide +kernel⟩, mt_6 (List.mem_of_getElem? (i := 33) rfl), mt_6 (List.mem_of_getElem? (i := 34) rfl), TX5, 5, rfl⟩
theorem km_X5_nextFold : MVk yX5_nextFold cX5_nextFold 7 (some .int) 4 5 := ⟨⟨mt_6 (List.mem_of_getElem? (i := 39) rfl), mt_1 (List.mem_of_getElem? (i := 11) rfl), by decide, by decide, by decide +kernel⟩, mt_6 (List.mem_of_getElem? (i := 38) rfl), mt_0 (List.mem_of_getElem? (i := 25) rfl), TX5, 5, rfl⟩
theorem km_X6_init : MIk yX6_init cX6_init 2 none 0 := ⟨mt_1 (List.mem_of_getElem? (i := 168) rfl), mt_1 (List.mem_of_getElem? (i := 4) rfl), by decide, by decide, by decide +kernel⟩
theorem km_X6_forgetAll : MVk yX6_forgetAll cX6_forgetAll 1 none 0 6 := ⟨⟨mt_3 (List.mem_of_getElem? (i := 200) rfl), mt_1 (List.mem_of_getElem? (i := 4) rfl), by decide, by decide, by decide +kernel⟩, mt_3 (List.mem_of_getElem? (i := 198) rfl), mt_3 (List.mem_of_getElem? (i := 199) rfl), TX6, 5, rfl⟩
theorem km_X6_remember : MVk yX6_remember cX6_remember 5 none 3 6 := ⟨⟨mt_3 (List.mem_of_getElem? (i := 213) rfl), mt_1 (List.mem_of_getElem? (i := 4) rfl), by decide, by decide, by decide +kernel⟩, mt_3 (List.mem_of_getElem? (i := 211) rfl), mt_3 (List.mem_of_getElem? (i := 212) rfl), TX6, 5, rfl⟩
theorem km_X6_recall : MVk yX6_recall cX6_recall 5 none 3 6 := ⟨⟨mt_5 (List.mem_of_getElem? (i := 31) rfl), mt_1 (List.mem_of_getElem? (i := 4) rfl), by decide, by decide, by decide +kernel⟩, mt_5 (List.mem_of_getElem? (i := 29) rfl), mt_5 (List.mem_of_getElem? (i := 30) rfl), TX6, 5, rfl⟩
theorem km_X6_copy : MSk yX6_copy cX6_copy 3 none 2 := ⟨⟨mt_3 (List.mem_of_getElem? (i := 217) rfl), mt_1 (List.mem_of_getElem? (i := 4) rfl), by decide, by decide, by decide +kernel⟩, mt_3 (List.mem_of_getElem? (i := 216) rfl)⟩
theorem km_X7_init : MIk yX7_init cX7_init 1 none 0 := ⟨mt_1 (List.mem_of_getElem? (i := 34) rfl), mt_1 (List.mem_of_getElem? (i := 3) rfl), by decide, by decide, by decide +kernel⟩
theorem km_X7_become : MVk yX7_become cX7_become 2 none 1 7 := ⟨⟨mt_3 (List.mem_of_getElem? (i := 196) rfl), mt_1 (List.mem_of_getElem? (i := 3) rfl), by decide, by decide, by decide +kernel⟩, mt_3 (List.mem_of_getElem? (i := 194) rfl), mt_3 (List.mem_of_getElem? (i := 195) rfl), TX7, 15, rfl⟩
theorem km_X7_makePlain : MVk yX7_makePlain cX7_makePlain 1 none 0 7 := ⟨⟨mt_3 (List.mem_of_getElem? (i := 106) rfl), mt_1 (List.mem_of_getElem? (i := 3) rfl), by decide, by decide, by decide +kernel⟩, mt_3 (List.mem_of_getElem? (i := 104) rfl), mt_3 (List.mem_of_getElem? (i := 105) rfl), TX7, 15, rfl⟩
theorem km_X7_isFlap : MVk yX7_isFlap cX7_isFlap 1 (some .boolean) 0 7 := ⟨⟨mt_5 (List.mem_of_getElem? (i := 13) rfl), mt_1 (List.mem_of_getElem? (i := 3) rfl), by decide, by decide, by decide +kernel⟩, mt_5 (List.mem_of_getElem? (i := 11) rfl), mt_5 (List.mem_of_getElem? (i := 12) rfl), TX7, 15, rfl⟩
theorem km_X7_nearSide : MVk yX7_nearSide cX7_nearSide 1 (some .int) 0 7 := ⟨⟨mt_5 (List.mem_of_getElem? (i := 187) rfl), mt_1 (List.mem_of_getElem? (i := 3) rfl), by decide, by decide, by decide +kernel⟩, mt_5 (List.mem_of_getElem? (i := 185) rfl), mt_5 (List.mem_of_getElem? (i := 186) rfl), TX7, 15, rfl⟩
theorem km_X7_hangsOn : MVk yX7_hangsOn cX7_hangsOn 3 (some .boolean) 2 7 := ⟨⟨mt_5 (List.mem_of_getElem? (i := 183) rfl), mt_1 (List.mem_of_getElem? (i := 3) rfl), by decide, by decide, by decide +kernel⟩, mt_5 (List.mem_of_getElem? (i := 181) rfl), mt_5 (List.mem_of_getElem? (i := 182) rfl), TX7, 15, rfl⟩
theorem km_X7_sideLength : MVk yX7_sideLength cX7_sideLength 2 (some .int) 1 7 := ⟨⟨mt_3 (List.mem_of_getElem? (i := 136) rfl), mt_1 (List.mem_of_getElem? (i := 3) rfl), by decide, by decide, by decide +kernel⟩, mt_3 (List.mem_of_getElem? (i := 134) rfl), mt_3 (List.mem_of_getElem? (i := 135) rfl), TX7, 15, rfl⟩
theorem km_X7_lowOn : MVk yX7_lowOn cX7_lowOn 2 (some .int) 1 7 := ⟨⟨mt_5 (List.mem_of_getElem? (i := 64) rfl), mt_1 (List.mem_of_getElem? (i := 3) rfl), by decide, by decide, by decide +kernel⟩, mt_5 (List.mem_of_getElem? (i := 62) rfl), mt_5 (List.mem_of_getElem? (i := 63) rfl), TX7, 15, rfl⟩
theorem km_X7_highOn : MVk yX7_highOn cX7_highOn 2 (some .int) 1 7 := ⟨⟨mt_5 (List.mem_of_getElem? (i := 68) rfl), mt_1 (List.mem_of_getElem? (i := 3) rfl), by decide, by decide, by decide +kernel⟩, mt_5 (List.mem_of_getElem? (i := 66) rfl), mt_5 (List.mem_of_getElem? (i := 67) rfl), TX7, 15, rfl⟩
theorem km_X7_overlaps : MVk yX7_overlaps cX7_overlaps 2 (some .boolean) 1 7 := ⟨⟨mt_3 (List.mem_of_getElem? (i := 140) rfl), mt_1 (List.mem_of_getElem? (i := 3) rfl), by decide, by decide, by decide +kernel⟩, mt_3 (List.mem_of_getElem? (i := 138) rfl), mt_3 (List.mem_of_getElem? (i := 139) rfl), TX7, 15, rfl⟩
theorem km_X8_init : MIk yX8_init cX8_init 1 none 0 := ⟨mt_2 (List.mem_of_getElem? (i := 45) rfl), mt_1 (List.mem_of_getElem? (i := 12) rfl), by decide, by decide, by decide +kernel⟩
theorem km_X8_layFlat : MVk yX8_layFlat cX8_layFlat 2 none 1 8 := ⟨⟨mt_4 (List.mem_of_getElem? (i := 84) rfl), mt_1 (List.mem_of_getElem? (i := 12) rfl), by decide, by decide, by decide +kernel⟩, mt_4 (List.mem_of_getElem? (i := 82) rfl), mt_4 (List.mem_of_getElem? (i := 83) rfl), TX8, 14, rfl⟩
theorem km_X8_hangOn : MVk yX8_hangOn cX8_hangOn 10 none 3 8 := ⟨⟨mt_4 (List.mem_of_getElem? (i := 109) rfl), mt_1 (List.mem_of_getElem? (i := 12) rfl), by decide, by decide, by decide +kernel⟩, mt_4 (List.mem_of_getElem? (i := 107) rfl), mt_4 (List.mem_of_getElem? (i := 108) rfl), TX8, 14, rfl⟩
theorem km_X8_outward : MVk yX8_outward cX8_outward 2 (some .int) 1 8 := ⟨⟨mt_4 (List.mem_of_getElem? (i := 113) rfl), mt_1 (List.mem_of_getElem? (i := 12) rfl), by decide, by decide, by decide +kernel⟩, mt_4 (List.mem_of_getElem? (i := 112) rfl), mt_0 (List.mem_of_getElem? (i := 12) rfl), TX8, 14, rfl⟩
theorem km_X8_part : MSk yX8_part cX8_part 2 (some .int) 2 := ⟨⟨mt_4 (List.mem_of_getElem? (i := 95) rfl), mt_1 (List.mem_of_getElem? (i := 12) rfl), by decide, by decide, by decide +kernel⟩, mt_4 (List.mem_of_getElem? (i := 94) rfl)⟩
theorem km_X8_cornerAt : MVk yX8_cornerAt cX8_cornerAt 5 (some .int) 2 8 := ⟨⟨mt_4 (List.mem_of_getElem? (i := 92) rfl), mt_1 (List.mem_of_getElem? (i := 12) rfl), by decide, by decide, by decide +kernel⟩, mt_4 (List.mem_of_getElem? (i := 90) rfl), mt_4 (List.mem_of_getElem? (i := 91) rfl), TX8, 14, rfl⟩
theorem km_X8_measure : MVk yX8_measure cX8_measure 5 none 0 8 := ⟨⟨mt_4 (List.mem_of_getElem? (i := 88) rfl), mt_1 (List.mem_of_getElem? (i := 12) rfl), by decide, by decide, by decide +kernel⟩, mt_4 (List.mem_of_getElem? (i := 86) rfl), mt_4 (List.mem_of_getElem? (i := 87) rfl), TX8, 14, rfl⟩
theorem km_X8_pointX : MVk yX8_pointX cX8_pointX 3 (some .int) 2 8 := ⟨⟨mt_4 (List.mem_of_getElem? (i := 190) rfl), mt_1 (List.mem_of_getElem? (i := 12) rfl), by decide, by decide, by decide +kernel⟩, mt_4 (List.mem_of_getElem? (i := 188) rfl), mt_4 (List.mem_of_getElem? (i := 189) rfl), TX8, 14, rfl⟩
theorem km_X8_pointY : MVk yX8_pointY cX8_pointY 3 (some .int) 2 8 := ⟨⟨mt_4 (List.mem_of_getElem? (i := 195) rfl), mt_1 (List.mem_of_getElem? (i := 12) rfl), by decide, by decide, by decide +kernel⟩, mt_4 (List.mem_of_getElem? (i := 193) rfl), mt_4 (List.mem_of_getElem? (i := 194) rfl), TX8, 14, rfl⟩
theorem km_X8_lowOn : MVk yX8_lowOn cX8_lowOn 2 (some .int) 1 8 := ⟨⟨mt_5 (List.mem_of_getElem? (i := 204) rfl), mt_1 (List.mem_of_getElem? (i := 12) rfl), by decide, by decide, by decide +kernel⟩, mt_5 (List.mem_of_getElem? (i := 202) rfl), mt_5 (List.mem_of_getElem? (i := 203) rfl), TX8, 14, rfl⟩
theorem km_X8_highOn : MVk yX8_highOn cX8_highOn 2 (some .int) 1 8 := ⟨⟨mt_5 (List.mem_of_getElem? (i := 213) rfl), mt_1 (List.mem_of_getElem? (i := 12) rfl), by decide, by decide, by decide +kernel⟩, mt_5 (List.mem_of_getElem? (i := 211) rfl), mt_5 (List.mem_of_getElem? (i := 212) rfl), TX8, 14, rfl⟩
theorem km_X8_commonOn : MVk yX8_commonOn cX8_commonOn 3 (some .int) 2 8 := ⟨⟨mt_5 (List.mem_of_getElem? (i := 209) rfl), mt_1 (List.mem_of_getElem? (i := 12) rfl), by decide, by decide, by decide +kernel⟩, mt_5 (List.mem_of_getElem? (i := 207) rfl), mt_5 (List.mem_of_getElem? (i := 208) rfl), TX8, 14, rfl⟩
theorem km_X8_isCutBy : MVk yX8_isCutBy cX8_isCutBy 5 (some .boolean) 2 8 := ⟨⟨mt_6 (List.mem_of_getElem? (i := 26) rfl), mt_1 (List.mem_of_getElem? (i := 12) rfl), by decide, by decide, by decide +kernel⟩, mt_6 (List.mem_of_getElem? (i := 24) rfl), mt_6 (List.mem_of_getElem? (i := 25) rfl), TX8, 14, rfl⟩
theorem km_X9_init : MIk yX9_init cX9_init 1 none 0 := ⟨mt_1 (List.mem_of_getElem? (i := 196) rfl), mt_1 (List.mem_of_getElem? (i := 5) rfl), by decide, by decide, by decide +kernel⟩
theorem km_X9_read : MVk yX9_read cX9_read 4 (some .int) 2 9 := ⟨⟨mt_3 (List.mem_of_getElem? (i := 42) rfl), mt_1 (List.mem_of_getElem? (i := 5) rfl), by decide, by decide, by decide +kernel⟩, mt_3 (List.mem_of_getElem? (i := 40) rfl), mt_3 (List.mem_of_getElem? (i := 41) rfl), TX9, 8, rfl⟩
theorem km_X9_fail : MVk yX9_fail cX9_fail 3 none 2 9 := ⟨⟨mt_3 (List.mem_of_getElem? (i := 61) rfl), mt_1 (List.mem_of_getElem? (i := 5) rfl), by decide, by decide, by decide +kernel⟩, mt_3 (List.mem_of_getElem? (i := 60) rfl), mt_0 (List.mem_of_getElem? (i := 2) rfl), TX9, 8, rfl⟩
theorem km_X9_takeByte : MVk yX9_takeByte cX9_takeByte 6 none 3 9 := ⟨⟨mt_3 (List.mem_of_getElem? (i := 50) rfl), mt_1 (List.mem_of_getElem? (i := 5) rfl), by decide, by decide, by decide +kernel⟩, mt_3 (List.mem_of_getElem? (i := 49) rfl), mt_0 (List.mem_of_getElem? (i := 0) rfl), TX9, 8, rfl⟩
theorem km_X9_takeNumber : MVk yX9_takeNumber cX9_takeNumber 8 none 3 9 := ⟨⟨mt_3 (List.mem_of_getElem? (i := 57) rfl), mt_1 (List.mem_of_getElem? (i := 5) rfl), by decide, by decide, by decide +kernel⟩, mt_3 (List.mem_of_getElem? (i := 56) rfl), mt_0 (List.mem_of_getElem? (i := 1) rfl), TX9, 8, rfl⟩
theorem km_X9_beginItem : MVk yX9_beginItem cX9_beginItem 3 none 2 9 := ⟨⟨mt_3 (List.mem_of_getElem? (i := 72) rfl), mt_1 (List.mem_of_getElem? (i := 5) rfl), by decide, by decide, by decide +kernel⟩, mt_3 (List.mem_of_getElem? (i := 71) rfl), mt_0 (List.mem_of_getElem? (i := 4) rfl), TX9, 8, rfl⟩
theorem km_X9_endItem : MVk yX9_endItem cX9_endItem 2 none 1 9 := ⟨⟨mt_3 (List.mem_of_getElem? (i := 68) rfl), mt_1 (List.mem_of_getElem? (i := 5) rfl), by decide, by decide, by decide +kernel⟩, mt_3 (List.mem_of_getElem? (i := 67) rfl), mt_0 (List.mem_of_getElem? (i := 3) rfl), TX9, 8, rfl⟩
theorem km_X9_isDigit : MSk yX9_isDigit cX9_isDigit 1 (some .boolean) 1 := ⟨⟨mt_3 (List.mem_of_getElem? (i := 53) rfl), mt_1 (List.mem_of_getElem? (i := 5) rfl), by decide, by decide, by decide +kernel⟩, mt_3 (List.mem_of_getElem? (i := 52) rfl)⟩
theorem km_X9_numbersOf : MSk yX9_numbersOf cX9_numbersOf 1 (some .int) 1 := ⟨⟨mt_3 (List.mem_of_getElem? (i := 64) rfl), mt_1 (List.mem_of_getElem? (i := 5) rfl), by decide, by decide, by decide +kernel⟩, mt_3 (List.mem_of_getElem? (i := 63) rfl)⟩
theorem km_X9_carryOut : MVk yX9_carryOut cX9_carryOut 2 (some .boolean) 0 9 := ⟨⟨mt_3 (List.mem_of_getElem? (i := 76) rfl), mt_1 (List.mem_of_getElem? (i := 5) rfl), by decide, by decide, by decide +kernel⟩, mt_3 (List.mem_of_getElem? (i := 75) rfl), mt_0 (List.mem_of_getElem? (i := 5) rfl), TX9, 8, rfl⟩
theorem km_X9_hangPanel : MVk yX9_hangPanel cX9_hangPanel 3 (some .boolean) 0 9 := ⟨⟨mt_3 (List.mem_of_getElem? (i := 110) rfl), mt_1 (List.mem_of_getElem? (i := 5) rfl), by decide, by decide, by decide +kernel⟩, mt_3 (List.mem_of_getElem? (i := 109) rfl), mt_0 (List.mem_of_getElem? (i := 6) rfl), TX9, 8, rfl⟩
theorem km_X9_glue : MVk yX9_glue cX9_glue 1 (some .boolean) 0 9 := ⟨⟨mt_3 (List.mem_of_getElem? (i := 148) rfl), mt_1 (List.mem_of_getElem? (i := 5) rfl), by decide, by decide, by decide +kernel⟩, mt_3 (List.mem_of_getElem? (i := 147) rfl), mt_0 (List.mem_of_getElem? (i := 9) rfl), TX9, 8, rfl⟩
theorem km_X9_printImage : MVk yX9_printImage cX9_printImage 2 (some .boolean) 0 9 := ⟨⟨mt_3 (List.mem_of_getElem? (i := 177) rfl), mt_1 (List.mem_of_getElem? (i := 5) rfl), by decide, by decide, by decide +kernel⟩, mt_3 (List.mem_of_getElem? (i := 176) rfl), mt_0 (List.mem_of_getElem? (i := 10) rfl), TX9, 8, rfl⟩
theorem km_X10_init : MIk yX10_init cX10_init 1 none 0 := ⟨mt_2 (List.mem_of_getElem? (i := 32) rfl), mt_1 (List.mem_of_getElem? (i := 10) rfl), by decide, by decide, by decide +kernel⟩
theorem km_X10_find : MVk yX10_find cX10_find 5 none 1 10 := ⟨⟨mt_4 (List.mem_of_getElem? (i := 117) rfl), mt_1 (List.mem_of_getElem? (i := 10) rfl), by decide, by decide, by decide +kernel⟩, mt_4 (List.mem_of_getElem? (i := 115) rfl), mt_4 (List.mem_of_getElem? (i := 116) rfl), TX10, 9, rfl⟩
theorem km_X10_joinSide : MVk yX10_joinSide cX10_joinSide 10 none 3 10 := ⟨⟨mt_4 (List.mem_of_getElem? (i := 121) rfl), mt_1 (List.mem_of_getElem? (i := 10) rfl), by decide, by decide, by decide +kernel⟩, mt_4 (List.mem_of_getElem? (i := 120) rfl), mt_0 (List.mem_of_getElem? (i := 13) rfl), TX10, 9, rfl⟩
theorem km_X10_has : MVk yX10_has cX10_has 2 (some .boolean) 1 10 := ⟨⟨mt_4 (List.mem_of_getElem? (i := 131) rfl), mt_1 (List.mem_of_getElem? (i := 10) rfl), by decide, by decide, by decide +kernel⟩, mt_4 (List.mem_of_getElem? (i := 129) rfl), mt_4 (List.mem_of_getElem? (i := 130) rfl), TX10, 9, rfl⟩
theorem km_X10_panelP : MVk yX10_panelP cX10_panelP 2 (some .int) 1 10 := ⟨⟨mt_4 (List.mem_of_getElem? (i := 144) rfl), mt_1 (List.mem_of_getElem? (i := 10) rfl), by decide, by decide, by decide +kernel⟩, mt_4 (List.mem_of_getElem? (i := 142) rfl), mt_4 (List.mem_of_getElem? (i := 143) rfl), TX10, 9, rfl⟩
theorem km_X10_panelQ : MVk yX10_panelQ cX10_panelQ 2 (some .int) 1 10 := ⟨⟨mt_4 (List.mem_of_getElem? (i := 139) rfl), mt_1 (List.mem_of_getElem? (i := 10) rfl), by decide, by decide, by decide +kernel⟩, mt_4 (List.mem_of_getElem? (i := 137) rfl), mt_4 (List.mem_of_getElem? (i := 138) rfl), TX10, 9, rfl⟩
theorem km_X10_sideOfP : MVk yX10_sideOfP cX10_sideOfP 2 (some .int) 1 10 := ⟨⟨mt_4 (List.mem_of_getElem? (i := 153) rfl), mt_1 (List.mem_of_getElem? (i := 10) rfl), by decide, by decide, by decide +kernel⟩, mt_4 (List.mem_of_getElem? (i := 151) rfl), mt_4 (List.mem_of_getElem? (i := 152) rfl), TX10, 9, rfl⟩
theorem km_X10_sideOfQ : MVk yX10_sideOfQ cX10_sideOfQ 2 (some .int) 1 10 := ⟨⟨mt_4 (List.mem_of_getElem? (i := 149) rfl), mt_1 (List.mem_of_getElem? (i := 10) rfl), by decide, by decide, by decide +kernel⟩, mt_4 (List.mem_of_getElem? (i := 147) rfl), mt_4 (List.mem_of_getElem? (i := 148) rfl), TX10, 9, rfl⟩
theorem km_X10_lowOf : MVk yX10_lowOf cX10_lowOf 2 (some .int) 1 10 := ⟨⟨mt_4 (List.mem_of_getElem? (i := 182) rfl), mt_1 (List.mem_of_getElem? (i := 10) rfl), by decide, by decide, by decide +kernel⟩, mt_4 (List.mem_of_getElem? (i := 180) rfl), mt_4 (List.mem_of_getElem? (i := 181) rfl), TX10, 9, rfl⟩
theorem km_X10_highOf : MVk yX10_highOf cX10_highOf 2 (some .int) 1 10 := ⟨⟨mt_4 (List.mem_of_getElem? (i := 186) rfl), mt_1 (List.mem_of_getElem? (i := 10) rfl), by decide, by decide, by decide +kernel⟩, mt_4 (List.mem_of_getElem? (i := 184) rfl), mt_4 (List.mem_of_getElem? (i := 185) rfl), TX10, 9, rfl⟩
theorem km_X10_value : MVk yX10_value cX10_value 4 (some .int) 3 10 := ⟨⟨mt_5 (List.mem_of_getElem? (i := 170) rfl), mt_1 (List.mem_of_getElem? (i := 10) rfl), by decide, by decide, by decide +kernel⟩, mt_5 (List.mem_of_getElem? (i := 168) rfl), mt_5 (List.mem_of_getElem? (i := 169) rfl), TX10, 9, rfl⟩
theorem km_X10_isFold : MVk yX10_isFold cX10_isFold 4 (some .boolean) 2 10 := ⟨⟨mt_5 (List.mem_of_getElem? (i := 178) rfl), mt_1 (List.mem_of_getElem? (i := 10) rfl), by decide, by decide, by decide +kernel⟩, mt_5 (List.mem_of_getElem? (i := 177) rfl), mt_0 (List.mem_of_getElem? (i := 23) rfl), TX10, 9, rfl⟩
theorem km_X10_open : MVk yX10_open cX10_open 5 (some .int) 2 10 := ⟨⟨mt_5 (List.mem_of_getElem? (i := 150) rfl), mt_1 (List.mem_of_getElem? (i := 10) rfl), by decide, by decide, by decide +kernel⟩, mt_5 (List.mem_of_getElem? (i := 148) rfl), mt_5 (List.mem_of_getElem? (i := 149) rfl), TX10, 9, rfl⟩
theorem km_X11_init : MIk yX11_init cX11_init 2 none 0 := ⟨mt_1 (List.mem_of_getElem? (i := 19) rfl), mt_1 (List.mem_of_getElem? (i := 1) rfl), by decide, by decide, by decide +kernel⟩
theorem km_X11_type : MVk yX11_type cX11_type 2 (some .int) 1 11 := ⟨⟨mt_3 (List.mem_of_getElem? (i := 30) rfl), mt_1 (List.mem_of_getElem? (i := 1) rfl), by decide, by decide, by decide +kernel⟩, mt_3 (List.mem_of_getElem? (i := 28) rfl), mt_3 (List.mem_of_getElem? (i := 29) rfl), TX11, 16, rfl⟩
theorem km_X11_clearText : MVk yX11_clearText cX11_clearText 2 (some .int) 0 11 := ⟨⟨mt_3 (List.mem_of_getElem? (i := 34) rfl), mt_1 (List.mem_of_getElem? (i := 1) rfl), by decide, by decide, by decide +kernel⟩, mt_3 (List.mem_of_getElem? (i := 32) rfl), mt_3 (List.mem_of_getElem? (i := 33) rfl), TX11, 16, rfl⟩
theorem km_X11_load : MVk yX11_load cX11_load 2 (some .int) 0 11 := ⟨⟨mt_3 (List.mem_of_getElem? (i := 38) rfl), mt_1 (List.mem_of_getElem? (i := 1) rfl), by decide, by decide, by decide +kernel⟩, mt_3 (List.mem_of_getElem? (i := 36) rfl), mt_3 (List.mem_of_getElem? (i := 37) rfl), TX11, 16, rfl⟩
theorem km_X11_faultKind : MVk yX11_faultKind cX11_faultKind 1 (some .int) 0 11 := ⟨⟨mt_3 (List.mem_of_getElem? (i := 204) rfl), mt_1 (List.mem_of_getElem? (i := 1) rfl), by decide, by decide, by decide +kernel⟩, mt_3 (List.mem_of_getElem? (i := 202) rfl), mt_3 (List.mem_of_getElem? (i := 203) rfl), TX11, 16, rfl⟩
theorem km_X11_setSheet : MVk yX11_setSheet cX11_setSheet 4 (some .int) 2 11 := ⟨⟨mt_3 (List.mem_of_getElem? (i := 208) rfl), mt_1 (List.mem_of_getElem? (i := 1) rfl), by decide, by decide, by decide +kernel⟩, mt_3 (List.mem_of_getElem? (i := 206) rfl), mt_3 (List.mem_of_getElem? (i := 207) rfl), TX11, 16, rfl⟩
theorem km_X11_setBase : MVk yX11_setBase cX11_setBase 6 (some .int) 4 11 := ⟨⟨mt_3 (List.mem_of_getElem? (i := 222) rfl), mt_1 (List.mem_of_getElem? (i := 1) rfl), by decide, by decide, by decide +kernel⟩, mt_3 (List.mem_of_getElem? (i := 220) rfl), mt_3 (List.mem_of_getElem? (i := 221) rfl), TX11, 16, rfl⟩
theorem km_X11_addPanel : MVk yX11_addPanel cX11_addPanel 8 (some .int) 6 11 := ⟨⟨mt_3 (List.mem_of_getElem? (i := 228) rfl), mt_1 (List.mem_of_getElem? (i := 1) rfl), by decide, by decide, by decide +kernel⟩, mt_3 (List.mem_of_getElem? (i := 226) rfl), mt_3 (List.mem_of_getElem? (i := 227) rfl), TX11, 16, rfl⟩
theorem km_X11_removeLast : MVk yX11_removeLast cX11_removeLast 2 (some .int) 0 11 := ⟨⟨mt_3 (List.mem_of_getElem? (i := 234) rfl), mt_1 (List.mem_of_getElem? (i := 1) rfl), by decide, by decide, by decide +kernel⟩, mt_3 (List.mem_of_getElem? (i := 232) rfl), mt_3 (List.mem_of_getElem? (i := 233) rfl), TX11, 16, rfl⟩
theorem km_X11_setAngle : MVk yX11_setAngle cX11_setAngle 3 (some .int) 2 11 := ⟨⟨mt_4 (List.mem_of_getElem? (i := 6) rfl), mt_1 (List.mem_of_getElem? (i := 1) rfl), by decide, by decide, by decide +kernel⟩, mt_4 (List.mem_of_getElem? (i := 4) rfl), mt_4 (List.mem_of_getElem? (i := 5) rfl), TX11, 16, rfl⟩
theorem km_X11_setSize : MVk yX11_setSize cX11_setSize 5 (some .int) 3 11 := ⟨⟨mt_4 (List.mem_of_getElem? (i := 16) rfl), mt_1 (List.mem_of_getElem? (i := 1) rfl), by decide, by decide, by decide +kernel⟩, mt_4 (List.mem_of_getElem? (i := 14) rfl), mt_4 (List.mem_of_getElem? (i := 15) rfl), TX11, 16, rfl⟩
theorem km_X11_setFlap : MVk yX11_setFlap cX11_setFlap 4 (some .int) 2 11 := ⟨⟨mt_4 (List.mem_of_getElem? (i := 37) rfl), mt_1 (List.mem_of_getElem? (i := 1) rfl), by decide, by decide, by decide +kernel⟩, mt_4 (List.mem_of_getElem? (i := 35) rfl), mt_4 (List.mem_of_getElem? (i := 36) rfl), TX11, 16, rfl⟩
theorem km_X11_defineImage : MVk yX11_defineImage cX11_defineImage 5 (some .int) 3 11 := ⟨⟨mt_4 (List.mem_of_getElem? (i := 43) rfl), mt_1 (List.mem_of_getElem? (i := 1) rfl), by decide, by decide, by decide +kernel⟩, mt_4 (List.mem_of_getElem? (i := 41) rfl), mt_4 (List.mem_of_getElem? (i := 42) rfl), TX11, 16, rfl⟩
theorem km_X11_place : MVk yX11_place cX11_place 7 (some .int) 5 11 := ⟨⟨mt_4 (List.mem_of_getElem? (i := 49) rfl), mt_1 (List.mem_of_getElem? (i := 1) rfl), by decide, by decide, by decide +kernel⟩, mt_4 (List.mem_of_getElem? (i := 47) rfl), mt_4 (List.mem_of_getElem? (i := 48) rfl), TX11, 16, rfl⟩
theorem km_X11_clearImage : MVk yX11_clearImage cX11_clearImage 3 (some .int) 1 11 := ⟨⟨mt_4 (List.mem_of_getElem? (i := 55) rfl), mt_1 (List.mem_of_getElem? (i := 1) rfl), by decide, by decide, by decide +kernel⟩, mt_4 (List.mem_of_getElem? (i := 53) rfl), mt_4 (List.mem_of_getElem? (i := 54) rfl), TX11, 16, rfl⟩
theorem km_X11_continueImage : MVk yX11_continueImage cX11_continueImage 3 (some .int) 2 11 := ⟨⟨mt_4 (List.mem_of_getElem? (i := 67) rfl), mt_1 (List.mem_of_getElem? (i := 1) rfl), by decide, by decide, by decide +kernel⟩, mt_4 (List.mem_of_getElem? (i := 65) rfl), mt_4 (List.mem_of_getElem? (i := 66) rfl), TX11, 16, rfl⟩
theorem km_X11_spreadImage : MVk yX11_spreadImage cX11_spreadImage 3 (some .int) 1 11 := ⟨⟨mt_5 (List.mem_of_getElem? (i := 0) rfl), mt_1 (List.mem_of_getElem? (i := 1) rfl), by decide, by decide, by decide +kernel⟩, mt_4 (List.mem_of_getElem? (i := 238) rfl), mt_4 (List.mem_of_getElem? (i := 239) rfl), TX11, 16, rfl⟩
theorem km_X11_setLimit : MVk yX11_setLimit cX11_setLimit 4 (some .int) 2 11 := ⟨⟨mt_5 (List.mem_of_getElem? (i := 19) rfl), mt_1 (List.mem_of_getElem? (i := 1) rfl), by decide, by decide, by decide +kernel⟩, mt_5 (List.mem_of_getElem? (i := 17) rfl), mt_5 (List.mem_of_getElem? (i := 18) rfl), TX11, 16, rfl⟩
theorem km_X11_setWeight : MVk yX11_setWeight cX11_setWeight 4 (some .int) 2 11 := ⟨⟨mt_5 (List.mem_of_getElem? (i := 23) rfl), mt_1 (List.mem_of_getElem? (i := 1) rfl), by decide, by decide, by decide +kernel⟩, mt_5 (List.mem_of_getElem? (i := 21) rfl), mt_5 (List.mem_of_getElem? (i := 22) rfl), TX11, 16, rfl⟩
theorem km_X11_undo : MVk yX11_undo cX11_undo 1 (some .int) 0 11 := ⟨⟨mt_5 (List.mem_of_getElem? (i := 27) rfl), mt_1 (List.mem_of_getElem? (i := 1) rfl), by decide, by decide, by decide +kernel⟩, mt_5 (List.mem_of_getElem? (i := 25) rfl), mt_5 (List.mem_of_getElem? (i := 26) rfl), TX11, 16, rfl⟩
theorem km_X11_save : MVk yX11_save cX11_save 2 (some .int) 1 11 := ⟨⟨mt_5 (List.mem_of_getElem? (i := 35) rfl), mt_1 (List.mem_of_getElem? (i := 1) rfl), by decide, by decide, by decide +kernel⟩, mt_5 (List.mem_of_getElem? (i := 33) rfl), mt_5 (List.mem_of_getElem? (i := 34) rfl), TX11, 16, rfl⟩
theorem km_X11_restore : MVk yX11_restore cX11_restore 2 (some .int) 1 11 := ⟨⟨mt_5 (List.mem_of_getElem? (i := 39) rfl), mt_1 (List.mem_of_getElem? (i := 1) rfl), by decide, by decide, by decide +kernel⟩, mt_5 (List.mem_of_getElem? (i := 37) rfl), mt_5 (List.mem_of_getElem? (i := 38) rfl), TX11, 16, rfl⟩
theorem km_X11_flat : MVk yX11_flat cX11_flat 4 (some .int) 2 11 := ⟨⟨mt_5 (List.mem_of_getElem? (i := 43) rfl), mt_1 (List.mem_of_getElem? (i := 1) rfl), by decide, by decide, by decide +kernel⟩, mt_5 (List.mem_of_getElem? (i := 41) rfl), mt_5 (List.mem_of_getElem? (i := 42) rfl), TX11, 16, rfl⟩
theorem km_X11_cutLength : MVk yX11_cutLength cX11_cutLength 1 (some .int) 0 11 := ⟨⟨mt_5 (List.mem_of_getElem? (i := 48) rfl), mt_1 (List.mem_of_getElem? (i := 1) rfl), by decide, by decide, by decide +kernel⟩, mt_5 (List.mem_of_getElem? (i := 46) rfl), mt_5 (List.mem_of_getElem? (i := 47) rfl), TX11, 16, rfl⟩
theorem km_X11_creaseLength : MVk yX11_creaseLength cX11_creaseLength 1 (some .int) 0 11 := ⟨⟨mt_5 (List.mem_of_getElem? (i := 86) rfl), mt_1 (List.mem_of_getElem? (i := 1) rfl), by decide, by decide, by decide +kernel⟩, mt_5 (List.mem_of_getElem? (i := 84) rfl), mt_5 (List.mem_of_getElem? (i := 85) rfl), TX11, 16, rfl⟩
theorem km_X11_pitch : MVk yX11_pitch cX11_pitch 5 (some .int) 3 11 := ⟨⟨mt_5 (List.mem_of_getElem? (i := 94) rfl), mt_1 (List.mem_of_getElem? (i := 1) rfl), by decide, by decide, by decide +kernel⟩, mt_5 (List.mem_of_getElem? (i := 92) rfl), mt_5 (List.mem_of_getElem? (i := 93) rfl), TX11, 16, rfl⟩
theorem km_X11_rowCount : MVk yX11_rowCount cX11_rowCount 4 (some .int) 2 11 := ⟨⟨mt_5 (List.mem_of_getElem? (i := 127) rfl), mt_1 (List.mem_of_getElem? (i := 1) rfl), by decide, by decide, by decide +kernel⟩, mt_5 (List.mem_of_getElem? (i := 125) rfl), mt_5 (List.mem_of_getElem? (i := 126) rfl), TX11, 16, rfl⟩
theorem km_X11_corner : MVk yX11_corner cX11_corner 4 (some .int) 3 11 := ⟨⟨mt_5 (List.mem_of_getElem? (i := 136) rfl), mt_1 (List.mem_of_getElem? (i := 1) rfl), by decide, by decide, by decide +kernel⟩, mt_5 (List.mem_of_getElem? (i := 134) rfl), mt_5 (List.mem_of_getElem? (i := 135) rfl), TX11, 16, rfl⟩
theorem km_X11_facing : MVk yX11_facing cX11_facing 2 (some .int) 1 11 := ⟨⟨mt_5 (List.mem_of_getElem? (i := 142) rfl), mt_1 (List.mem_of_getElem? (i := 1) rfl), by decide, by decide, by decide +kernel⟩, mt_5 (List.mem_of_getElem? (i := 140) rfl), mt_5 (List.mem_of_getElem? (i := 141) rfl), TX11, 16, rfl⟩
theorem km_X11_openLength : MVk yX11_openLength cX11_openLength 3 (some .int) 2 11 := ⟨⟨mt_5 (List.mem_of_getElem? (i := 146) rfl), mt_1 (List.mem_of_getElem? (i := 1) rfl), by decide, by decide, by decide +kernel⟩, mt_5 (List.mem_of_getElem? (i := 144) rfl), mt_5 (List.mem_of_getElem? (i := 145) rfl), TX11, 16, rfl⟩
theorem km_X11_seamCount : MVk yX11_seamCount cX11_seamCount 1 (some .int) 0 11 := ⟨⟨mt_5 (List.mem_of_getElem? (i := 157) rfl), mt_1 (List.mem_of_getElem? (i := 1) rfl), by decide, by decide, by decide +kernel⟩, mt_5 (List.mem_of_getElem? (i := 155) rfl), mt_5 (List.mem_of_getElem? (i := 156) rfl), TX11, 16, rfl⟩
theorem km_X11_seam : MVk yX11_seam cX11_seam 3 (some .int) 2 11 := ⟨⟨mt_5 (List.mem_of_getElem? (i := 161) rfl), mt_1 (List.mem_of_getElem? (i := 1) rfl), by decide, by decide, by decide +kernel⟩, mt_5 (List.mem_of_getElem? (i := 159) rfl), mt_5 (List.mem_of_getElem? (i := 160) rfl), TX11, 16, rfl⟩
theorem km_X11_coverage : MVk yX11_coverage cX11_coverage 2 (some .int) 1 11 := ⟨⟨mt_5 (List.mem_of_getElem? (i := 191) rfl), mt_1 (List.mem_of_getElem? (i := 1) rfl), by decide, by decide, by decide +kernel⟩, mt_5 (List.mem_of_getElem? (i := 189) rfl), mt_5 (List.mem_of_getElem? (i := 190) rfl), TX11, 16, rfl⟩
theorem km_X11_volume : MVk yX11_volume cX11_volume 1 (some .long) 0 11 := ⟨⟨mt_5 (List.mem_of_getElem? (i := 218) rfl), mt_1 (List.mem_of_getElem? (i := 1) rfl), by decide, by decide, by decide +kernel⟩, mt_5 (List.mem_of_getElem? (i := 216) rfl), mt_5 (List.mem_of_getElem? (i := 217) rfl), TX11, 16, rfl⟩
theorem km_X11_leastTolerance : MVk yX11_leastTolerance cX11_leastTolerance 2 (some .int) 0 11 := ⟨⟨mt_5 (List.mem_of_getElem? (i := 239) rfl), mt_1 (List.mem_of_getElem? (i := 1) rfl), by decide, by decide, by decide +kernel⟩, mt_5 (List.mem_of_getElem? (i := 237) rfl), mt_5 (List.mem_of_getElem? (i := 238) rfl), TX11, 16, rfl⟩
theorem km_X11_crossings : MVk yX11_crossings cX11_crossings 2 (some .int) 1 11 := ⟨⟨mt_6 (List.mem_of_getElem? (i := 14) rfl), mt_1 (List.mem_of_getElem? (i := 1) rfl), by decide, by decide, by decide +kernel⟩, mt_6 (List.mem_of_getElem? (i := 12) rfl), mt_6 (List.mem_of_getElem? (i := 13) rfl), TX11, 16, rfl⟩
theorem km_X11_foldStep : MVk yX11_foldStep cX11_foldStep 3 (some .int) 1 11 := ⟨⟨mt_6 (List.mem_of_getElem? (i := 31) rfl), mt_1 (List.mem_of_getElem? (i := 1) rfl), by decide, by decide, by decide +kernel⟩, mt_6 (List.mem_of_getElem? (i := 29) rfl), mt_6 (List.mem_of_getElem? (i := 30) rfl), TX11, 16, rfl⟩
theorem km_X11_imageAt : MVk yX11_imageAt cX11_imageAt 6 (some .int) 4 11 := ⟨⟨mt_6 (List.mem_of_getElem? (i := 49) rfl), mt_1 (List.mem_of_getElem? (i := 1) rfl), by decide, by decide, by decide +kernel⟩, mt_6 (List.mem_of_getElem? (i := 47) rfl), mt_6 (List.mem_of_getElem? (i := 48) rfl), TX11, 16, rfl⟩
theorem km_X11_reach : MVk yX11_reach cX11_reach 3 (some .int) 2 11 := ⟨⟨mt_6 (List.mem_of_getElem? (i := 56) rfl), mt_1 (List.mem_of_getElem? (i := 1) rfl), by decide, by decide, by decide +kernel⟩, mt_6 (List.mem_of_getElem? (i := 54) rfl), mt_6 (List.mem_of_getElem? (i := 55) rfl), TX11, 16, rfl⟩
theorem km_X11_findingCount : MVk yX11_findingCount cX11_findingCount 1 (some .int) 0 11 := ⟨⟨mt_6 (List.mem_of_getElem? (i := 61) rfl), mt_1 (List.mem_of_getElem? (i := 1) rfl), by decide, by decide, by decide +kernel⟩, mt_6 (List.mem_of_getElem? (i := 59) rfl), mt_6 (List.mem_of_getElem? (i := 60) rfl), TX11, 16, rfl⟩
theorem km_X11_finding : MVk yX11_finding cX11_finding 3 (some .int) 2 11 := ⟨⟨mt_6 (List.mem_of_getElem? (i := 134) rfl), mt_1 (List.mem_of_getElem? (i := 1) rfl), by decide, by decide, by decide +kernel⟩, mt_6 (List.mem_of_getElem? (i := 132) rfl), mt_6 (List.mem_of_getElem? (i := 133) rfl), TX11, 16, rfl⟩
theorem km_X11_totalCost : MVk yX11_totalCost cX11_totalCost 1 (some .long) 0 11 := ⟨⟨mt_6 (List.mem_of_getElem? (i := 161) rfl), mt_1 (List.mem_of_getElem? (i := 1) rfl), by decide, by decide, by decide +kernel⟩, mt_6 (List.mem_of_getElem? (i := 159) rfl), mt_6 (List.mem_of_getElem? (i := 160) rfl), TX11, 16, rfl⟩
theorem km_X11_panelCost : MVk yX11_panelCost cX11_panelCost 2 (some .long) 1 11 := ⟨⟨mt_6 (List.mem_of_getElem? (i := 165) rfl), mt_1 (List.mem_of_getElem? (i := 1) rfl), by decide, by decide, by decide +kernel⟩, mt_6 (List.mem_of_getElem? (i := 163) rfl), mt_6 (List.mem_of_getElem? (i := 164) rfl), TX11, 16, rfl⟩
theorem km_X11_bestDepth : MVk yX11_bestDepth cX11_bestDepth 8 (some .int) 1 11 := ⟨⟨mt_6 (List.mem_of_getElem? (i := 174) rfl), mt_1 (List.mem_of_getElem? (i := 1) rfl), by decide, by decide, by decide +kernel⟩, mt_6 (List.mem_of_getElem? (i := 172) rfl), mt_6 (List.mem_of_getElem? (i := 173) rfl), TX11, 16, rfl⟩
theorem km_X11_bestAngle : MVk yX11_bestAngle cX11_bestAngle 6 (some .int) 1 11 := ⟨⟨mt_6 (List.mem_of_getElem? (i := 181) rfl), mt_1 (List.mem_of_getElem? (i := 1) rfl), by decide, by decide, by decide +kernel⟩, mt_6 (List.mem_of_getElem? (i := 179) rfl), mt_6 (List.mem_of_getElem? (i := 180) rfl), TX11, 16, rfl⟩
theorem km_X11_count : MVk yX11_count cX11_count 2 (some .int) 1 11 := ⟨⟨mt_6 (List.mem_of_getElem? (i := 185) rfl), mt_1 (List.mem_of_getElem? (i := 1) rfl), by decide, by decide, by decide +kernel⟩, mt_6 (List.mem_of_getElem? (i := 183) rfl), mt_6 (List.mem_of_getElem? (i := 184) rfl), TX11, 16, rfl⟩
theorem km_X11_findSeams : MVk yX11_findSeams cX11_findSeams 1 none 0 11 := ⟨⟨mt_4 (List.mem_of_getElem? (i := 71) rfl), mt_1 (List.mem_of_getElem? (i := 1) rfl), by decide, by decide, by decide +kernel⟩, mt_4 (List.mem_of_getElem? (i := 70) rfl), mt_0 (List.mem_of_getElem? (i := 11) rfl), TX11, 16, rfl⟩
theorem km_X11_pitchFault : MVk yX11_pitchFault cX11_pitchFault 3 (some .int) 2 11 := ⟨⟨mt_5 (List.mem_of_getElem? (i := 98) rfl), mt_1 (List.mem_of_getElem? (i := 1) rfl), by decide, by decide, by decide +kernel⟩, mt_5 (List.mem_of_getElem? (i := 97) rfl), mt_0 (List.mem_of_getElem? (i := 20) rfl), TX11, 16, rfl⟩
theorem km_X11_isAngle : MSk yX11_isAngle cX11_isAngle 1 (some .boolean) 1 := ⟨⟨mt_3 (List.mem_of_getElem? (i := 121) rfl), mt_1 (List.mem_of_getElem? (i := 1) rfl), by decide, by decide, by decide +kernel⟩, mt_3 (List.mem_of_getElem? (i := 120) rfl)⟩
theorem km_X11_isPosition : MSk yX11_isPosition cX11_isPosition 1 (some .boolean) 1 := ⟨⟨mt_3 (List.mem_of_getElem? (i := 184) rfl), mt_1 (List.mem_of_getElem? (i := 1) rfl), by decide, by decide, by decide +kernel⟩, mt_3 (List.mem_of_getElem? (i := 183) rfl)⟩
theorem km_X11_isLength : MSk yX11_isLength cX11_isLength 1 (some .boolean) 1 := ⟨⟨mt_3 (List.mem_of_getElem? (i := 98) rfl), mt_1 (List.mem_of_getElem? (i := 1) rfl), by decide, by decide, by decide +kernel⟩, mt_3 (List.mem_of_getElem? (i := 97) rfl)⟩
theorem km_X11_isOffset : MSk yX11_isOffset cX11_isOffset 1 (some .boolean) 1 := ⟨⟨mt_3 (List.mem_of_getElem? (i := 95) rfl), mt_1 (List.mem_of_getElem? (i := 1) rfl), by decide, by decide, by decide +kernel⟩, mt_3 (List.mem_of_getElem? (i := 94) rfl)⟩
theorem km_X11_common : MSk yX11_common cX11_common 4 (some .int) 4 := ⟨⟨mt_5 (List.mem_of_getElem? (i := 113) rfl), mt_1 (List.mem_of_getElem? (i := 1) rfl), by decide, by decide, by decide +kernel⟩, mt_5 (List.mem_of_getElem? (i := 112) rfl)⟩
theorem km_X12_init : MIk yX12_init cX12_init 2 none 0 := ⟨mt_6 (List.mem_of_getElem? (i := 203) rfl), mt_1 (List.mem_of_getElem? (i := 13) rfl), by decide, by decide, by decide +kernel⟩
theorem km_X12_in : MSk yX12_in cX12_in 3 (some .boolean) 3 := ⟨⟨mt_7 (List.mem_of_getElem? (i := 70) rfl), mt_1 (List.mem_of_getElem? (i := 13) rfl), by decide, by decide, by decide +kernel⟩, mt_7 (List.mem_of_getElem? (i := 69) rfl)⟩
theorem km_X12_least : MSk yX12_least cX12_least 2 (some .int) 2 := ⟨⟨mt_7 (List.mem_of_getElem? (i := 124) rfl), mt_1 (List.mem_of_getElem? (i := 13) rfl), by decide, by decide, by decide +kernel⟩, mt_7 (List.mem_of_getElem? (i := 123) rfl)⟩
theorem km_X12_most : MSk yX12_most cX12_most 2 (some .int) 2 := ⟨⟨mt_7 (List.mem_of_getElem? (i := 127) rfl), mt_1 (List.mem_of_getElem? (i := 13) rfl), by decide, by decide, by decide +kernel⟩, mt_7 (List.mem_of_getElem? (i := 126) rfl)⟩
theorem km_X12_amount : MSk yX12_amount cX12_amount 1 (some .int) 1 := ⟨⟨mt_8 (List.mem_of_getElem? (i := 67) rfl), mt_1 (List.mem_of_getElem? (i := 13) rfl), by decide, by decide, by decide +kernel⟩, mt_8 (List.mem_of_getElem? (i := 66) rfl)⟩
theorem km_X12_bits : MSk yX12_bits cX12_bits 3 (some .int) 1 := ⟨⟨mt_9 (List.mem_of_getElem? (i := 97) rfl), mt_1 (List.mem_of_getElem? (i := 13) rfl), by decide, by decide, by decide +kernel⟩, mt_9 (List.mem_of_getElem? (i := 96) rfl)⟩
theorem km_X12_clearDesign : MVk yX12_clearDesign cX12_clearDesign 2 none 0 12 := ⟨⟨mt_6 (List.mem_of_getElem? (i := 208) rfl), mt_1 (List.mem_of_getElem? (i := 13) rfl), by decide, by decide, by decide +kernel⟩, mt_6 (List.mem_of_getElem? (i := 207) rfl), mt_0 (List.mem_of_getElem? (i := 34) rfl), TX12, 30, rfl⟩
theorem km_X12_many : MVk yX12_many cX12_many 1 (some .int) 0 12 := ⟨⟨mt_7 (List.mem_of_getElem? (i := 74) rfl), mt_1 (List.mem_of_getElem? (i := 13) rfl), by decide, by decide, by decide +kernel⟩, mt_7 (List.mem_of_getElem? (i := 73) rfl), mt_0 (List.mem_of_getElem? (i := 35) rfl), TX12, 30, rfl⟩
theorem km_X12_of : MVk yX12_of cX12_of 3 (some .int) 2 12 := ⟨⟨mt_7 (List.mem_of_getElem? (i := 110) rfl), mt_1 (List.mem_of_getElem? (i := 13) rfl), by decide, by decide, by decide +kernel⟩, mt_7 (List.mem_of_getElem? (i := 109) rfl), mt_0 (List.mem_of_getElem? (i := 42) rfl), TX12, 30, rfl⟩
theorem km_X12_put : MVk yX12_put cX12_put 4 none 3 12 := ⟨⟨mt_7 (List.mem_of_getElem? (i := 143) rfl), mt_1 (List.mem_of_getElem? (i := 13) rfl), by decide, by decide, by decide +kernel⟩, mt_7 (List.mem_of_getElem? (i := 142) rfl), mt_0 (List.mem_of_getElem? (i := 47) rfl), TX12, 30, rfl⟩
theorem km_X12_isPanel : MVk yX12_isPanel cX12_isPanel 2 (some .boolean) 1 12 := ⟨⟨mt_7 (List.mem_of_getElem? (i := 155) rfl), mt_1 (List.mem_of_getElem? (i := 13) rfl), by decide, by decide, by decide +kernel⟩, mt_7 (List.mem_of_getElem? (i := 154) rfl), mt_0 (List.mem_of_getElem? (i := 49) rfl), TX12, 30, rfl⟩
theorem km_X12_isHung : MVk yX12_isHung cX12_isHung 2 (some .boolean) 1 12 := ⟨⟨mt_7 (List.mem_of_getElem? (i := 167) rfl), mt_1 (List.mem_of_getElem? (i := 13) rfl), by decide, by decide, by decide +kernel⟩, mt_7 (List.mem_of_getElem? (i := 166) rfl), mt_0 (List.mem_of_getElem? (i := 50) rfl), TX12, 30, rfl⟩
theorem km_X12_limitOf : MVk yX12_limitOf cX12_limitOf 2 (some .int) 1 12 := ⟨⟨mt_8 (List.mem_of_getElem? (i := 26) rfl), mt_1 (List.mem_of_getElem? (i := 13) rfl), by decide, by decide, by decide +kernel⟩, mt_8 (List.mem_of_getElem? (i := 25) rfl), mt_0 (List.mem_of_getElem? (i := 62) rfl), TX12, 30, rfl⟩
theorem km_X12_isFlap : MVk yX12_isFlap cX12_isFlap 2 (some .boolean) 1 12 := ⟨⟨mt_8 (List.mem_of_getElem? (i := 128) rfl), mt_1 (List.mem_of_getElem? (i := 13) rfl), by decide, by decide, by decide +kernel⟩, mt_8 (List.mem_of_getElem? (i := 127) rfl), mt_0 (List.mem_of_getElem? (i := 82) rfl), TX12, 30, rfl⟩
theorem km_X12_begins : MVk yX12_begins cX12_begins 2 none 0 12 := ⟨⟨mt_7 (List.mem_of_getElem? (i := 82) rfl), mt_1 (List.mem_of_getElem? (i := 13) rfl), by decide, by decide, by decide +kernel⟩, mt_7 (List.mem_of_getElem? (i := 81) rfl), mt_0 (List.mem_of_getElem? (i := 36) rfl), TX12, 30, rfl⟩
theorem km_X12_refuse : MVk yX12_refuse cX12_refuse 3 (some .int) 1 12 := ⟨⟨mt_7 (List.mem_of_getElem? (i := 98) rfl), mt_1 (List.mem_of_getElem? (i := 13) rfl), by decide, by decide, by decide +kernel⟩, mt_7 (List.mem_of_getElem? (i := 97) rfl), mt_0 (List.mem_of_getElem? (i := 39) rfl), TX12, 30, rfl⟩
theorem km_X12_ends : MVk yX12_ends cX12_ends 3 (some .int) 1 12 := ⟨⟨mt_7 (List.mem_of_getElem? (i := 86) rfl), mt_1 (List.mem_of_getElem? (i := 13) rfl), by decide, by decide, by decide +kernel⟩, mt_7 (List.mem_of_getElem? (i := 85) rfl), mt_0 (List.mem_of_getElem? (i := 37) rfl), TX12, 30, rfl⟩
theorem km_X12_undo : MVk yX12_undo cX12_undo 2 (some .int) 0 12 := ⟨⟨mt_7 (List.mem_of_getElem? (i := 63) rfl), mt_1 (List.mem_of_getElem? (i := 13) rfl), by decide, by decide, by decide +kernel⟩, mt_7 (List.mem_of_getElem? (i := 61) rfl), mt_7 (List.mem_of_getElem? (i := 62) rfl), TX12, 30, rfl⟩
theorem km_X12_save : MVk yX12_save cX12_save 3 (some .int) 1 12 := ⟨⟨mt_7 (List.mem_of_getElem? (i := 67) rfl), mt_1 (List.mem_of_getElem? (i := 13) rfl), by decide, by decide, by decide +kernel⟩, mt_7 (List.mem_of_getElem? (i := 65) rfl), mt_7 (List.mem_of_getElem? (i := 66) rfl), TX12, 30, rfl⟩
theorem km_X12_restore : MVk yX12_restore cX12_restore 3 (some .int) 1 12 := ⟨⟨mt_7 (List.mem_of_getElem? (i := 78) rfl), mt_1 (List.mem_of_getElem? (i := 13) rfl), by decide, by decide, by decide +kernel⟩, mt_7 (List.mem_of_getElem? (i := 76) rfl), mt_7 (List.mem_of_getElem? (i := 77) rfl), TX12, 30, rfl⟩
theorem km_X12_layFlat : MVk yX12_layFlat cX12_layFlat 6 none 0 12 := ⟨⟨mt_7 (List.mem_of_getElem? (i := 106) rfl), mt_1 (List.mem_of_getElem? (i := 13) rfl), by decide, by decide, by decide +kernel⟩, mt_7 (List.mem_of_getElem? (i := 105) rfl), mt_0 (List.mem_of_getElem? (i := 41) rfl), TX12, 30, rfl⟩
theorem km_X12_sideLength : MVk yX12_sideLength cX12_sideLength 3 (some .int) 2 12 := ⟨⟨mt_7 (List.mem_of_getElem? (i := 114) rfl), mt_1 (List.mem_of_getElem? (i := 13) rfl), by decide, by decide, by decide +kernel⟩, mt_7 (List.mem_of_getElem? (i := 113) rfl), mt_0 (List.mem_of_getElem? (i := 43) rfl), TX12, 30, rfl⟩
theorem km_X12_common : MSk yX12_common cX12_common 4 (some .int) 4 := ⟨⟨mt_7 (List.mem_of_getElem? (i := 121) rfl), mt_1 (List.mem_of_getElem? (i := 13) rfl), by decide, by decide, by decide +kernel⟩, mt_7 (List.mem_of_getElem? (i := 120) rfl)⟩
theorem km_X12_overlap : MVk yX12_overlap cX12_overlap 3 (some .boolean) 2 12 := ⟨⟨mt_7 (List.mem_of_getElem? (i := 118) rfl), mt_1 (List.mem_of_getElem? (i := 13) rfl), by decide, by decide, by decide +kernel⟩, mt_7 (List.mem_of_getElem? (i := 117) rfl), mt_0 (List.mem_of_getElem? (i := 44) rfl), TX12, 30, rfl⟩
theorem km_X12_isValid : MVk yX12_isValid cX12_isValid 4 (some .boolean) 0 12 := ⟨⟨mt_7 (List.mem_of_getElem? (i := 102) rfl), mt_1 (List.mem_of_getElem? (i := 13) rfl), by decide, by decide, by decide +kernel⟩, mt_7 (List.mem_of_getElem? (i := 101) rfl), mt_0 (List.mem_of_getElem? (i := 40) rfl), TX12, 30, rfl⟩
theorem km_X12_doSheet : MVk yX12_doSheet cX12_doSheet 4 (some .int) 2 12 := ⟨⟨mt_7 (List.mem_of_getElem? (i := 94) rfl), mt_1 (List.mem_of_getElem? (i := 13) rfl), by decide, by decide, by decide +kernel⟩, mt_7 (List.mem_of_getElem? (i := 93) rfl), mt_0 (List.mem_of_getElem? (i := 38) rfl), TX12, 30, rfl⟩
theorem km_X12_newPanel : MVk yX12_newPanel cX12_newPanel 3 none 1 12 := ⟨⟨mt_7 (List.mem_of_getElem? (i := 139) rfl), mt_1 (List.mem_of_getElem? (i := 13) rfl), by decide, by decide, by decide +kernel⟩, mt_7 (List.mem_of_getElem? (i := 138) rfl), mt_0 (List.mem_of_getElem? (i := 46) rfl), TX12, 30, rfl⟩
theorem km_X12_doBase : MVk yX12_doBase cX12_doBase 6 (some .int) 4 12 := ⟨⟨mt_7 (List.mem_of_getElem? (i := 135) rfl), mt_1 (List.mem_of_getElem? (i := 13) rfl), by decide, by decide, by decide +kernel⟩, mt_7 (List.mem_of_getElem? (i := 134) rfl), mt_0 (List.mem_of_getElem? (i := 45) rfl), TX12, 30, rfl⟩
theorem km_X12_doPanel : MVk yX12_doPanel cX12_doPanel 8 (some .int) 6 12 := ⟨⟨mt_7 (List.mem_of_getElem? (i := 151) rfl), mt_1 (List.mem_of_getElem? (i := 13) rfl), by decide, by decide, by decide +kernel⟩, mt_7 (List.mem_of_getElem? (i := 150) rfl), mt_0 (List.mem_of_getElem? (i := 48) rfl), TX12, 30, rfl⟩
theorem km_X12_doFlap : MVk yX12_doFlap cX12_doFlap 4 (some .int) 2 12 := ⟨⟨mt_7 (List.mem_of_getElem? (i := 179) rfl), mt_1 (List.mem_of_getElem? (i := 13) rfl), by decide, by decide, by decide +kernel⟩, mt_7 (List.mem_of_getElem? (i := 178) rfl), mt_0 (List.mem_of_getElem? (i := 51) rfl), TX12, 30, rfl⟩
theorem km_X12_doImage : MVk yX12_doImage cX12_doImage 5 (some .int) 3 12 := ⟨⟨mt_7 (List.mem_of_getElem? (i := 187) rfl), mt_1 (List.mem_of_getElem? (i := 13) rfl), by decide, by decide, by decide +kernel⟩, mt_7 (List.mem_of_getElem? (i := 186) rfl), mt_0 (List.mem_of_getElem? (i := 52) rfl), TX12, 30, rfl⟩
theorem km_X12_doPlace : MVk yX12_doPlace cX12_doPlace 7 (some .int) 5 12 := ⟨⟨mt_7 (List.mem_of_getElem? (i := 195) rfl), mt_1 (List.mem_of_getElem? (i := 13) rfl), by decide, by decide, by decide +kernel⟩, mt_7 (List.mem_of_getElem? (i := 194) rfl), mt_0 (List.mem_of_getElem? (i := 53) rfl), TX12, 30, rfl⟩
theorem km_X12_setSheet : MVk yX12_setSheet cX12_setSheet 3 (some .int) 2 12 := ⟨⟨mt_7 (List.mem_of_getElem? (i := 90) rfl), mt_1 (List.mem_of_getElem? (i := 13) rfl), by decide, by decide, by decide +kernel⟩, mt_7 (List.mem_of_getElem? (i := 88) rfl), mt_7 (List.mem_of_getElem? (i := 89) rfl), TX12, 30, rfl⟩
theorem km_X12_setBase : MVk yX12_setBase cX12_setBase 5 (some .int) 4 12 := ⟨⟨mt_7 (List.mem_of_getElem? (i := 131) rfl), mt_1 (List.mem_of_getElem? (i := 13) rfl), by decide, by decide, by decide +kernel⟩, mt_7 (List.mem_of_getElem? (i := 129) rfl), mt_7 (List.mem_of_getElem? (i := 130) rfl), TX12, 30, rfl⟩
theorem km_X12_addPanel : MVk yX12_addPanel cX12_addPanel 7 (some .int) 6 12 := ⟨⟨mt_7 (List.mem_of_getElem? (i := 147) rfl), mt_1 (List.mem_of_getElem? (i := 13) rfl), by decide, by decide, by decide +kernel⟩, mt_7 (List.mem_of_getElem? (i := 145) rfl), mt_7 (List.mem_of_getElem? (i := 146) rfl), TX12, 30, rfl⟩
theorem km_X12_removeLast : MVk yX12_removeLast cX12_removeLast 4 (some .int) 0 12 := ⟨⟨mt_7 (List.mem_of_getElem? (i := 159) rfl), mt_1 (List.mem_of_getElem? (i := 13) rfl), by decide, by decide, by decide +kernel⟩, mt_7 (List.mem_of_getElem? (i := 157) rfl), mt_7 (List.mem_of_getElem? (i := 158) rfl), TX12, 30, rfl⟩
theorem km_X12_setAngle : MVk yX12_setAngle cX12_setAngle 4 (some .int) 2 12 := ⟨⟨mt_7 (List.mem_of_getElem? (i := 163) rfl), mt_1 (List.mem_of_getElem? (i := 13) rfl), by decide, by decide, by decide +kernel⟩, mt_7 (List.mem_of_getElem? (i := 161) rfl), mt_7 (List.mem_of_getElem? (i := 162) rfl), TX12, 30, rfl⟩
theorem km_X12_setSize : MVk yX12_setSize cX12_setSize 5 (some .int) 3 12 := ⟨⟨mt_7 (List.mem_of_getElem? (i := 171) rfl), mt_1 (List.mem_of_getElem? (i := 13) rfl), by decide, by decide, by decide +kernel⟩, mt_7 (List.mem_of_getElem? (i := 169) rfl), mt_7 (List.mem_of_getElem? (i := 170) rfl), TX12, 30, rfl⟩
theorem km_X12_setFlap : MVk yX12_setFlap cX12_setFlap 3 (some .int) 2 12 := ⟨⟨mt_7 (List.mem_of_getElem? (i := 175) rfl), mt_1 (List.mem_of_getElem? (i := 13) rfl), by decide, by decide, by decide +kernel⟩, mt_7 (List.mem_of_getElem? (i := 173) rfl), mt_7 (List.mem_of_getElem? (i := 174) rfl), TX12, 30, rfl⟩
theorem km_X12_defineImage : MVk yX12_defineImage cX12_defineImage 4 (some .int) 3 12 := ⟨⟨mt_7 (List.mem_of_getElem? (i := 183) rfl), mt_1 (List.mem_of_getElem? (i := 13) rfl), by decide, by decide, by decide +kernel⟩, mt_7 (List.mem_of_getElem? (i := 181) rfl), mt_7 (List.mem_of_getElem? (i := 182) rfl), TX12, 30, rfl⟩
theorem km_X12_place : MVk yX12_place cX12_place 6 (some .int) 5 12 := ⟨⟨mt_7 (List.mem_of_getElem? (i := 191) rfl), mt_1 (List.mem_of_getElem? (i := 13) rfl), by decide, by decide, by decide +kernel⟩, mt_7 (List.mem_of_getElem? (i := 189) rfl), mt_7 (List.mem_of_getElem? (i := 190) rfl), TX12, 30, rfl⟩
theorem km_X12_clearImage : MVk yX12_clearImage cX12_clearImage 3 (some .int) 1 12 := ⟨⟨mt_7 (List.mem_of_getElem? (i := 199) rfl), mt_1 (List.mem_of_getElem? (i := 13) rfl), by decide, by decide, by decide +kernel⟩, mt_7 (List.mem_of_getElem? (i := 197) rfl), mt_7 (List.mem_of_getElem? (i := 198) rfl), TX12, 30, rfl⟩
theorem km_X12_setLimit : MVk yX12_setLimit cX12_setLimit 4 (some .int) 2 12 := ⟨⟨mt_7 (List.mem_of_getElem? (i := 203) rfl), mt_1 (List.mem_of_getElem? (i := 13) rfl), by decide, by decide, by decide +kernel⟩, mt_7 (List.mem_of_getElem? (i := 201) rfl), mt_7 (List.mem_of_getElem? (i := 202) rfl), TX12, 30, rfl⟩
theorem km_X12_setWeight : MVk yX12_setWeight cX12_setWeight 4 (some .int) 2 12 := ⟨⟨mt_7 (List.mem_of_getElem? (i := 207) rfl), mt_1 (List.mem_of_getElem? (i := 13) rfl), by decide, by decide, by decide +kernel⟩, mt_7 (List.mem_of_getElem? (i := 205) rfl), mt_7 (List.mem_of_getElem? (i := 206) rfl), TX12, 30, rfl⟩
theorem km_X12_type : MVk yX12_type cX12_type 2 (some .int) 1 12 := ⟨⟨mt_7 (List.mem_of_getElem? (i := 211) rfl), mt_1 (List.mem_of_getElem? (i := 13) rfl), by decide, by decide, by decide +kernel⟩, mt_7 (List.mem_of_getElem? (i := 209) rfl), mt_7 (List.mem_of_getElem? (i := 210) rfl), TX12, 30, rfl⟩
theorem km_X12_clearText : MVk yX12_clearText cX12_clearText 2 (some .int) 0 12 := ⟨⟨mt_7 (List.mem_of_getElem? (i := 215) rfl), mt_1 (List.mem_of_getElem? (i := 13) rfl), by decide, by decide, by decide +kernel⟩, mt_7 (List.mem_of_getElem? (i := 213) rfl), mt_7 (List.mem_of_getElem? (i := 214) rfl), TX12, 30, rfl⟩
theorem km_X12_here : MVk yX12_here cX12_here 2 (some .int) 1 12 := ⟨⟨mt_7 (List.mem_of_getElem? (i := 227) rfl), mt_1 (List.mem_of_getElem? (i := 13) rfl), by decide, by decide, by decide +kernel⟩, mt_7 (List.mem_of_getElem? (i := 226) rfl), mt_0 (List.mem_of_getElem? (i := 55) rfl), TX12, 30, rfl⟩
theorem km_X12_isDigit : MVk yX12_isDigit cX12_isDigit 2 (some .boolean) 1 12 := ⟨⟨mt_7 (List.mem_of_getElem? (i := 238) rfl), mt_1 (List.mem_of_getElem? (i := 13) rfl), by decide, by decide, by decide +kernel⟩, mt_7 (List.mem_of_getElem? (i := 237) rfl), mt_0 (List.mem_of_getElem? (i := 57) rfl), TX12, 30, rfl⟩
theorem km_X12_numbersOf : MSk yX12_numbersOf cX12_numbersOf 1 (some .int) 1 := ⟨⟨mt_7 (List.mem_of_getElem? (i := 234) rfl), mt_1 (List.mem_of_getElem? (i := 13) rfl), by decide, by decide, by decide +kernel⟩, mt_7 (List.mem_of_getElem? (i := 233) rfl)⟩
theorem km_X12_numberEnd : MVk yX12_numberEnd cX12_numberEnd 4 (some .int) 1 12 := ⟨⟨mt_8 (List.mem_of_getElem? (i := 2) rfl), mt_1 (List.mem_of_getElem? (i := 13) rfl), by decide, by decide, by decide +kernel⟩, mt_8 (List.mem_of_getElem? (i := 1) rfl), mt_0 (List.mem_of_getElem? (i := 58) rfl), TX12, 30, rfl⟩
theorem km_X12_numberAt : MVk yX12_numberAt cX12_numberAt 5 (some .int) 2 12 := ⟨⟨mt_8 (List.mem_of_getElem? (i := 10) rfl), mt_1 (List.mem_of_getElem? (i := 13) rfl), by decide, by decide, by decide +kernel⟩, mt_8 (List.mem_of_getElem? (i := 9) rfl), mt_0 (List.mem_of_getElem? (i := 60) rfl), TX12, 30, rfl⟩
theorem km_X12_faulty : MVk yX12_faulty cX12_faulty 2 none 1 12 := ⟨⟨mt_8 (List.mem_of_getElem? (i := 6) rfl), mt_1 (List.mem_of_getElem? (i := 13) rfl), by decide, by decide, by decide +kernel⟩, mt_8 (List.mem_of_getElem? (i := 5) rfl), mt_0 (List.mem_of_getElem? (i := 59) rfl), TX12, 30, rfl⟩
theorem km_X12_skips : MVk yX12_skips cX12_skips 1 none 0 12 := ⟨⟨mt_7 (List.mem_of_getElem? (i := 223) rfl), mt_1 (List.mem_of_getElem? (i := 13) rfl), by decide, by decide, by decide +kernel⟩, mt_7 (List.mem_of_getElem? (i := 222) rfl), mt_0 (List.mem_of_getElem? (i := 54) rfl), TX12, 30, rfl⟩
theorem km_X12_readItem : MVk yX12_readItem cX12_readItem 7 none 0 12 := ⟨⟨mt_7 (List.mem_of_getElem? (i := 231) rfl), mt_1 (List.mem_of_getElem? (i := 13) rfl), by decide, by decide, by decide +kernel⟩, mt_7 (List.mem_of_getElem? (i := 230) rfl), mt_0 (List.mem_of_getElem? (i := 56) rfl), TX12, 30, rfl⟩
theorem km_X12_carryOut : MVk yX12_carryOut cX12_carryOut 2 none 1 12 := ⟨⟨mt_8 (List.mem_of_getElem? (i := 14) rfl), mt_1 (List.mem_of_getElem? (i := 13) rfl), by decide, by decide, by decide +kernel⟩, mt_8 (List.mem_of_getElem? (i := 13) rfl), mt_0 (List.mem_of_getElem? (i := 61) rfl), TX12, 30, rfl⟩
theorem km_X12_load : MVk yX12_load cX12_load 3 (some .int) 0 12 := ⟨⟨mt_7 (List.mem_of_getElem? (i := 219) rfl), mt_1 (List.mem_of_getElem? (i := 13) rfl), by decide, by decide, by decide +kernel⟩, mt_7 (List.mem_of_getElem? (i := 217) rfl), mt_7 (List.mem_of_getElem? (i := 218) rfl), TX12, 30, rfl⟩
theorem km_X12_faultKind : MVk yX12_faultKind cX12_faultKind 1 (some .int) 0 12 := ⟨⟨mt_8 (List.mem_of_getElem? (i := 18) rfl), mt_1 (List.mem_of_getElem? (i := 13) rfl), by decide, by decide, by decide +kernel⟩, mt_8 (List.mem_of_getElem? (i := 16) rfl), mt_8 (List.mem_of_getElem? (i := 17) rfl), TX12, 30, rfl⟩
theorem km_X12_layBase : MVk yX12_layBase cX12_layBase 2 none 0 12 := ⟨⟨mt_8 (List.mem_of_getElem? (i := 38) rfl), mt_1 (List.mem_of_getElem? (i := 13) rfl), by decide, by decide, by decide +kernel⟩, mt_8 (List.mem_of_getElem? (i := 37) rfl), mt_0 (List.mem_of_getElem? (i := 65) rfl), TX12, 30, rfl⟩
theorem km_X12_layHung : MVk yX12_layHung cX12_layHung 13 none 2 12 := ⟨⟨mt_8 (List.mem_of_getElem? (i := 42) rfl), mt_1 (List.mem_of_getElem? (i := 13) rfl), by decide, by decide, by decide +kernel⟩, mt_8 (List.mem_of_getElem? (i := 41) rfl), mt_0 (List.mem_of_getElem? (i := 66) rfl), TX12, 30, rfl⟩
theorem km_X12_fold : MVk yX12_fold cX12_fold 5 none 1 12 := ⟨⟨mt_8 (List.mem_of_getElem? (i := 34) rfl), mt_1 (List.mem_of_getElem? (i := 13) rfl), by decide, by decide, by decide +kernel⟩, mt_8 (List.mem_of_getElem? (i := 33) rfl), mt_0 (List.mem_of_getElem? (i := 64) rfl), TX12, 30, rfl⟩
theorem km_X12_cornerOf : MVk yX12_cornerOf cX12_cornerOf 5 (some .int) 3 12 := ⟨⟨mt_8 (List.mem_of_getElem? (i := 61) rfl), mt_1 (List.mem_of_getElem? (i := 13) rfl), by decide, by decide, by decide +kernel⟩, mt_8 (List.mem_of_getElem? (i := 60) rfl), mt_0 (List.mem_of_getElem? (i := 70) rfl), TX12, 30, rfl⟩
theorem km_X12_shared : MVk yX12_shared cX12_shared 4 (some .int) 3 12 := ⟨⟨mt_8 (List.mem_of_getElem? (i := 176) rfl), mt_1 (List.mem_of_getElem? (i := 13) rfl), by decide, by decide, by decide +kernel⟩, mt_8 (List.mem_of_getElem? (i := 175) rfl), mt_0 (List.mem_of_getElem? (i := 93) rfl), TX12, 30, rfl⟩
theorem km_X12_cuts : MVk yX12_cuts cX12_cuts 6 (some .boolean) 3 12 := ⟨⟨mt_8 (List.mem_of_getElem? (i := 184) rfl), mt_1 (List.mem_of_getElem? (i := 13) rfl), by decide, by decide, by decide +kernel⟩, mt_8 (List.mem_of_getElem? (i := 183) rfl), mt_0 (List.mem_of_getElem? (i := 95) rfl), TX12, 30, rfl⟩
theorem km_X12_crossing : MVk yX12_crossing cX12_crossing 4 (some .int) 3 12 := ⟨⟨mt_8 (List.mem_of_getElem? (i := 180) rfl), mt_1 (List.mem_of_getElem? (i := 13) rfl), by decide, by decide, by decide +kernel⟩, mt_8 (List.mem_of_getElem? (i := 179) rfl), mt_0 (List.mem_of_getElem? (i := 94) rfl), TX12, 30, rfl⟩
theorem km_X12_doubled : MVk yX12_doubled cX12_doubled 7 (some .int) 3 12 := ⟨⟨mt_8 (List.mem_of_getElem? (i := 172) rfl), mt_1 (List.mem_of_getElem? (i := 13) rfl), by decide, by decide, by decide +kernel⟩, mt_8 (List.mem_of_getElem? (i := 171) rfl), mt_0 (List.mem_of_getElem? (i := 92) rfl), TX12, 30, rfl⟩
theorem km_X12_firstCorner : MSk yX12_firstCorner cX12_firstCorner 1 (some .int) 1 := ⟨⟨mt_8 (List.mem_of_getElem? (i := 57) rfl), mt_1 (List.mem_of_getElem? (i := 13) rfl), by decide, by decide, by decide +kernel⟩, mt_8 (List.mem_of_getElem? (i := 56) rfl)⟩
theorem km_X12_lastCorner : MSk yX12_lastCorner cX12_lastCorner 1 (some .int) 1 := ⟨⟨mt_8 (List.mem_of_getElem? (i := 64) rfl), mt_1 (List.mem_of_getElem? (i := 13) rfl), by decide, by decide, by decide +kernel⟩, mt_8 (List.mem_of_getElem? (i := 63) rfl)⟩
theorem km_X12_sideAxis : MVk yX12_sideAxis cX12_sideAxis 6 (some .int) 2 12 := ⟨⟨mt_8 (List.mem_of_getElem? (i := 50) rfl), mt_1 (List.mem_of_getElem? (i := 13) rfl), by decide, by decide, by decide +kernel⟩, mt_8 (List.mem_of_getElem? (i := 49) rfl), mt_0 (List.mem_of_getElem? (i := 68) rfl), TX12, 30, rfl⟩
theorem km_X12_sideFrom : MVk yX12_sideFrom cX12_sideFrom 4 (some .int) 3 12 := ⟨⟨mt_8 (List.mem_of_getElem? (i := 54) rfl), mt_1 (List.mem_of_getElem? (i := 13) rfl), by decide, by decide, by decide +kernel⟩, mt_8 (List.mem_of_getElem? (i := 53) rfl), mt_0 (List.mem_of_getElem? (i := 69) rfl), TX12, 30, rfl⟩
theorem km_X12_sideTo : MVk yX12_sideTo cX12_sideTo 4 (some .int) 3 12 := ⟨⟨mt_8 (List.mem_of_getElem? (i := 71) rfl), mt_1 (List.mem_of_getElem? (i := 13) rfl), by decide, by decide, by decide +kernel⟩, mt_8 (List.mem_of_getElem? (i := 70) rfl), mt_0 (List.mem_of_getElem? (i := 71) rfl), TX12, 30, rfl⟩
theorem km_X12_meet : MVk yX12_meet cX12_meet 11 none 5 12 := ⟨⟨mt_8 (List.mem_of_getElem? (i := 46) rfl), mt_1 (List.mem_of_getElem? (i := 13) rfl), by decide, by decide, by decide +kernel⟩, mt_8 (List.mem_of_getElem? (i := 45) rfl), mt_0 (List.mem_of_getElem? (i := 67) rfl), TX12, 30, rfl⟩
theorem km_X12_findSeams : MVk yX12_findSeams cX12_findSeams 6 none 1 12 := ⟨⟨mt_8 (List.mem_of_getElem? (i := 30) rfl), mt_1 (List.mem_of_getElem? (i := 13) rfl), by decide, by decide, by decide +kernel⟩, mt_8 (List.mem_of_getElem? (i := 29) rfl), mt_0 (List.mem_of_getElem? (i := 63) rfl), TX12, 30, rfl⟩
theorem km_X12_openOf : MVk yX12_openOf cX12_openOf 10 (some .int) 3 12 := ⟨⟨mt_8 (List.mem_of_getElem? (i := 144) rfl), mt_1 (List.mem_of_getElem? (i := 13) rfl), by decide, by decide, by decide +kernel⟩, mt_8 (List.mem_of_getElem? (i := 143) rfl), mt_0 (List.mem_of_getElem? (i := 85) rfl), TX12, 30, rfl⟩
theorem km_X12_covered : MVk yX12_covered cX12_covered 6 (some .int) 2 12 := ⟨⟨mt_8 (List.mem_of_getElem? (i := 168) rfl), mt_1 (List.mem_of_getElem? (i := 13) rfl), by decide, by decide, by decide +kernel⟩, mt_8 (List.mem_of_getElem? (i := 167) rfl), mt_0 (List.mem_of_getElem? (i := 91) rfl), TX12, 30, rfl⟩
theorem km_X12_imageSize : MVk yX12_imageSize cX12_imageSize 3 (some .int) 2 12 := ⟨⟨mt_8 (List.mem_of_getElem? (i := 91) rfl), mt_1 (List.mem_of_getElem? (i := 13) rfl), by decide, by decide, by decide +kernel⟩, mt_8 (List.mem_of_getElem? (i := 90) rfl), mt_0 (List.mem_of_getElem? (i := 76) rfl), TX12, 30, rfl⟩
theorem km_X12_turnedSize : MVk yX12_turnedSize cX12_turnedSize 3 (some .int) 2 12 := ⟨⟨mt_8 (List.mem_of_getElem? (i := 87) rfl), mt_1 (List.mem_of_getElem? (i := 13) rfl), by decide, by decide, by decide +kernel⟩, mt_8 (List.mem_of_getElem? (i := 86) rfl), mt_0 (List.mem_of_getElem? (i := 75) rfl), TX12, 30, rfl⟩
theorem km_X12_shows : MVk yX12_shows cX12_shows 2 (some .boolean) 1 12 := ⟨⟨mt_8 (List.mem_of_getElem? (i := 83) rfl), mt_1 (List.mem_of_getElem? (i := 13) rfl), by decide, by decide, by decide +kernel⟩, mt_8 (List.mem_of_getElem? (i := 82) rfl), mt_0 (List.mem_of_getElem? (i := 74) rfl), TX12, 30, rfl⟩
theorem km_X12_reachOf : MVk yX12_reachOf cX12_reachOf 6 (some .int) 2 12 := ⟨⟨mt_8 (List.mem_of_getElem? (i := 79) rfl), mt_1 (List.mem_of_getElem? (i := 13) rfl), by decide, by decide, by decide +kernel⟩, mt_8 (List.mem_of_getElem? (i := 78) rfl), mt_0 (List.mem_of_getElem? (i := 73) rfl), TX12, 30, rfl⟩
theorem km_X12_inImage : MSk yX12_inImage cX12_inImage 9 (some .int) 6 := ⟨⟨mt_8 (List.mem_of_getElem? (i := 106) rfl), mt_1 (List.mem_of_getElem? (i := 13) rfl), by decide, by decide, by decide +kernel⟩, mt_8 (List.mem_of_getElem? (i := 105) rfl)⟩
theorem km_X12_imageOn : MVk yX12_imageOn cX12_imageOn 5 (some .int) 4 12 := ⟨⟨mt_8 (List.mem_of_getElem? (i := 103) rfl), mt_1 (List.mem_of_getElem? (i := 13) rfl), by decide, by decide, by decide +kernel⟩, mt_8 (List.mem_of_getElem? (i := 102) rfl), mt_0 (List.mem_of_getElem? (i := 79) rfl), TX12, 30, rfl⟩
theorem km_X12_along : MVk yX12_along cX12_along 10 (some .int) 5 12 := ⟨⟨mt_8 (List.mem_of_getElem? (i := 99) rfl), mt_1 (List.mem_of_getElem? (i := 13) rfl), by decide, by decide, by decide +kernel⟩, mt_8 (List.mem_of_getElem? (i := 98) rfl), mt_0 (List.mem_of_getElem? (i := 78) rfl), TX12, 30, rfl⟩
theorem km_X12_outward : MSk yX12_outward cX12_outward 2 (some .int) 2 := ⟨⟨mt_8 (List.mem_of_getElem? (i := 113) rfl), mt_1 (List.mem_of_getElem? (i := 13) rfl), by decide, by decide, by decide +kernel⟩, mt_8 (List.mem_of_getElem? (i := 112) rfl)⟩
theorem km_X12_step : MVk yX12_step cX12_step 5 (some .int) 4 12 := ⟨⟨mt_8 (List.mem_of_getElem? (i := 110) rfl), mt_1 (List.mem_of_getElem? (i := 13) rfl), by decide, by decide, by decide +kernel⟩, mt_8 (List.mem_of_getElem? (i := 109) rfl), mt_0 (List.mem_of_getElem? (i := 80) rfl), TX12, 30, rfl⟩
theorem km_X12_atEnd : MVk yX12_atEnd cX12_atEnd 6 (some .int) 5 12 := ⟨⟨mt_8 (List.mem_of_getElem? (i := 95) rfl), mt_1 (List.mem_of_getElem? (i := 13) rfl), by decide, by decide, by decide +kernel⟩, mt_8 (List.mem_of_getElem? (i := 94) rfl), mt_0 (List.mem_of_getElem? (i := 77) rfl), TX12, 30, rfl⟩
theorem km_X12_mismatch : MVk yX12_mismatch cX12_mismatch 10 (some .int) 1 12 := ⟨⟨mt_8 (List.mem_of_getElem? (i := 188) rfl), mt_1 (List.mem_of_getElem? (i := 13) rfl), by decide, by decide, by decide +kernel⟩, mt_8 (List.mem_of_getElem? (i := 187) rfl), mt_0 (List.mem_of_getElem? (i := 96) rfl), TX12, 30, rfl⟩
theorem km_X12_onTurned : MSk yX12_onTurned cX12_onTurned 10 (some .int) 6 := ⟨⟨mt_8 (List.mem_of_getElem? (i := 116) rfl), mt_1 (List.mem_of_getElem? (i := 13) rfl), by decide, by decide, by decide +kernel⟩, mt_8 (List.mem_of_getElem? (i := 115) rfl)⟩
theorem km_X12_continueOver : MVk yX12_continueOver cX12_continueOver 26 (some .int) 2 12 := ⟨⟨mt_8 (List.mem_of_getElem? (i := 75) rfl), mt_1 (List.mem_of_getElem? (i := 13) rfl), by decide, by decide, by decide +kernel⟩, mt_8 (List.mem_of_getElem? (i := 74) rfl), mt_0 (List.mem_of_getElem? (i := 72) rfl), TX12, 30, rfl⟩
theorem km_X12_continueImage : MVk yX12_continueImage cX12_continueImage 4 (some .int) 2 12 := ⟨⟨mt_8 (List.mem_of_getElem? (i := 22) rfl), mt_1 (List.mem_of_getElem? (i := 13) rfl), by decide, by decide, by decide +kernel⟩, mt_8 (List.mem_of_getElem? (i := 20) rfl), mt_8 (List.mem_of_getElem? (i := 21) rfl), TX12, 30, rfl⟩
theorem km_X12_spreads : MVk yX12_spreads cX12_spreads 6 (some .boolean) 1 12 := ⟨⟨mt_8 (List.mem_of_getElem? (i := 124) rfl), mt_1 (List.mem_of_getElem? (i := 13) rfl), by decide, by decide, by decide +kernel⟩, mt_8 (List.mem_of_getElem? (i := 123) rfl), mt_0 (List.mem_of_getElem? (i := 81) rfl), TX12, 30, rfl⟩
theorem km_X12_spreadImage : MVk yX12_spreadImage cX12_spreadImage 3 (some .int) 1 12 := ⟨⟨mt_8 (List.mem_of_getElem? (i := 120) rfl), mt_1 (List.mem_of_getElem? (i := 13) rfl), by decide, by decide, by decide +kernel⟩, mt_8 (List.mem_of_getElem? (i := 118) rfl), mt_8 (List.mem_of_getElem? (i := 119) rfl), TX12, 30, rfl⟩
theorem km_X12_finds : MVk yX12_finds cX12_finds 8 none 5 12 := ⟨⟨mt_8 (List.mem_of_getElem? (i := 148) rfl), mt_1 (List.mem_of_getElem? (i := 13) rfl), by decide, by decide, by decide +kernel⟩, mt_8 (List.mem_of_getElem? (i := 147) rfl), mt_0 (List.mem_of_getElem? (i := 86) rfl), TX12, 30, rfl⟩
theorem km_X12_isFolded : MVk yX12_isFolded cX12_isFolded 5 (some .boolean) 2 12 := ⟨⟨mt_8 (List.mem_of_getElem? (i := 152) rfl), mt_1 (List.mem_of_getElem? (i := 13) rfl), by decide, by decide, by decide +kernel⟩, mt_8 (List.mem_of_getElem? (i := 151) rfl), mt_0 (List.mem_of_getElem? (i := 87) rfl), TX12, 30, rfl⟩
theorem km_X12_stripOf : MVk yX12_stripOf cX12_stripOf 8 (some .int) 2 12 := ⟨⟨mt_8 (List.mem_of_getElem? (i := 160) rfl), mt_1 (List.mem_of_getElem? (i := 13) rfl), by decide, by decide, by decide +kernel⟩, mt_8 (List.mem_of_getElem? (i := 159) rfl), mt_0 (List.mem_of_getElem? (i := 89) rfl), TX12, 30, rfl⟩
theorem km_X12_findIntrusions : MVk yX12_findIntrusions cX12_findIntrusions 8 none 2 12 := ⟨⟨mt_8 (List.mem_of_getElem? (i := 156) rfl), mt_1 (List.mem_of_getElem? (i := 13) rfl), by decide, by decide, by decide +kernel⟩, mt_8 (List.mem_of_getElem? (i := 155) rfl), mt_0 (List.mem_of_getElem? (i := 88) rfl), TX12, 30, rfl⟩
theorem km_X12_findInk : MVk yX12_findInk cX12_findInk 6 none 1 12 := ⟨⟨mt_8 (List.mem_of_getElem? (i := 164) rfl), mt_1 (List.mem_of_getElem? (i := 13) rfl), by decide, by decide, by decide +kernel⟩, mt_8 (List.mem_of_getElem? (i := 163) rfl), mt_0 (List.mem_of_getElem? (i := 90) rfl), TX12, 30, rfl⟩
theorem km_X12_findSides : MVk yX12_findSides cX12_findSides 5 none 2 12 := ⟨⟨mt_8 (List.mem_of_getElem? (i := 140) rfl), mt_1 (List.mem_of_getElem? (i := 13) rfl), by decide, by decide, by decide +kernel⟩, mt_8 (List.mem_of_getElem? (i := 139) rfl), mt_0 (List.mem_of_getElem? (i := 84) rfl), TX12, 30, rfl⟩
theorem km_X12_findAll : MVk yX12_findAll cX12_findAll 4 none 0 12 := ⟨⟨mt_8 (List.mem_of_getElem? (i := 136) rfl), mt_1 (List.mem_of_getElem? (i := 13) rfl), by decide, by decide, by decide +kernel⟩, mt_8 (List.mem_of_getElem? (i := 135) rfl), mt_0 (List.mem_of_getElem? (i := 83) rfl), TX12, 30, rfl⟩
theorem km_X12_isAhead : MVk yX12_isAhead cX12_isAhead 6 (some .boolean) 2 12 := ⟨⟨mt_8 (List.mem_of_getElem? (i := 200) rfl), mt_1 (List.mem_of_getElem? (i := 13) rfl), by decide, by decide, by decide +kernel⟩, mt_8 (List.mem_of_getElem? (i := 199) rfl), mt_0 (List.mem_of_getElem? (i := 98) rfl), TX12, 30, rfl⟩
theorem km_X12_placed : MVk yX12_placed cX12_placed 5 (some .int) 1 12 := ⟨⟨mt_8 (List.mem_of_getElem? (i := 196) rfl), mt_1 (List.mem_of_getElem? (i := 13) rfl), by decide, by decide, by decide +kernel⟩, mt_8 (List.mem_of_getElem? (i := 195) rfl), mt_0 (List.mem_of_getElem? (i := 97) rfl), TX12, 30, rfl⟩
theorem km_X12_costs : MVk yX12_costs cX12_costs 5 (some .long) 1 12 := ⟨⟨mt_8 (List.mem_of_getElem? (i := 208) rfl), mt_1 (List.mem_of_getElem? (i := 13) rfl), by decide, by decide, by decide +kernel⟩, mt_8 (List.mem_of_getElem? (i := 207) rfl), mt_0 (List.mem_of_getElem? (i := 99) rfl), TX12, 30, rfl⟩
theorem km_X12_findingCount : MVk yX12_findingCount cX12_findingCount 1 (some .int) 0 12 := ⟨⟨mt_8 (List.mem_of_getElem? (i := 132) rfl), mt_1 (List.mem_of_getElem? (i := 13) rfl), by decide, by decide, by decide +kernel⟩, mt_8 (List.mem_of_getElem? (i := 130) rfl), mt_8 (List.mem_of_getElem? (i := 131) rfl), TX12, 30, rfl⟩
theorem km_X12_finding : MVk yX12_finding cX12_finding 4 (some .int) 2 12 := ⟨⟨mt_8 (List.mem_of_getElem? (i := 192) rfl), mt_1 (List.mem_of_getElem? (i := 13) rfl), by decide, by decide, by decide +kernel⟩, mt_8 (List.mem_of_getElem? (i := 190) rfl), mt_8 (List.mem_of_getElem? (i := 191) rfl), TX12, 30, rfl⟩
theorem km_X12_totalCost : MVk yX12_totalCost cX12_totalCost 1 (some .long) 0 12 := ⟨⟨mt_8 (List.mem_of_getElem? (i := 204) rfl), mt_1 (List.mem_of_getElem? (i := 13) rfl), by decide, by decide, by decide +kernel⟩, mt_8 (List.mem_of_getElem? (i := 202) rfl), mt_8 (List.mem_of_getElem? (i := 203) rfl), TX12, 30, rfl⟩
theorem km_X12_panelCost : MVk yX12_panelCost cX12_panelCost 2 (some .long) 1 12 := ⟨⟨mt_8 (List.mem_of_getElem? (i := 212) rfl), mt_1 (List.mem_of_getElem? (i := 13) rfl), by decide, by decide, by decide +kernel⟩, mt_8 (List.mem_of_getElem? (i := 210) rfl), mt_8 (List.mem_of_getElem? (i := 211) rfl), TX12, 30, rfl⟩
theorem km_X12_bestDepth : MVk yX12_bestDepth cX12_bestDepth 10 (some .int) 1 12 := ⟨⟨mt_8 (List.mem_of_getElem? (i := 217) rfl), mt_1 (List.mem_of_getElem? (i := 13) rfl), by decide, by decide, by decide +kernel⟩, mt_8 (List.mem_of_getElem? (i := 215) rfl), mt_8 (List.mem_of_getElem? (i := 216) rfl), TX12, 30, rfl⟩
theorem km_X12_bestAngle : MVk yX12_bestAngle cX12_bestAngle 9 (some .int) 1 12 := ⟨⟨mt_8 (List.mem_of_getElem? (i := 221) rfl), mt_1 (List.mem_of_getElem? (i := 13) rfl), by decide, by decide, by decide +kernel⟩, mt_8 (List.mem_of_getElem? (i := 219) rfl), mt_8 (List.mem_of_getElem? (i := 220) rfl), TX12, 30, rfl⟩
theorem km_X12_flat : MVk yX12_flat cX12_flat 3 (some .int) 2 12 := ⟨⟨mt_8 (List.mem_of_getElem? (i := 225) rfl), mt_1 (List.mem_of_getElem? (i := 13) rfl), by decide, by decide, by decide +kernel⟩, mt_8 (List.mem_of_getElem? (i := 223) rfl), mt_8 (List.mem_of_getElem? (i := 224) rfl), TX12, 30, rfl⟩
theorem km_X12_sideX : MVk yX12_sideX cX12_sideX 3 (some .int) 2 12 := ⟨⟨mt_8 (List.mem_of_getElem? (i := 233) rfl), mt_1 (List.mem_of_getElem? (i := 13) rfl), by decide, by decide, by decide +kernel⟩, mt_8 (List.mem_of_getElem? (i := 232) rfl), mt_0 (List.mem_of_getElem? (i := 100) rfl), TX12, 30, rfl⟩
theorem km_X12_sideY : MVk yX12_sideY cX12_sideY 3 (some .int) 2 12 := ⟨⟨mt_8 (List.mem_of_getElem? (i := 237) rfl), mt_1 (List.mem_of_getElem? (i := 13) rfl), by decide, by decide, by decide +kernel⟩, mt_8 (List.mem_of_getElem? (i := 236) rfl), mt_0 (List.mem_of_getElem? (i := 101) rfl), TX12, 30, rfl⟩
theorem km_X12_isOn : MVk yX12_isOn cX12_isOn 6 (some .boolean) 5 12 := ⟨⟨mt_9 (List.mem_of_getElem? (i := 5) rfl), mt_1 (List.mem_of_getElem? (i := 13) rfl), by decide, by decide, by decide +kernel⟩, mt_9 (List.mem_of_getElem? (i := 4) rfl), mt_0 (List.mem_of_getElem? (i := 103) rfl), TX12, 30, rfl⟩
theorem km_X12_isFold : MVk yX12_isFold cX12_isFold 6 (some .boolean) 3 12 := ⟨⟨mt_9 (List.mem_of_getElem? (i := 1) rfl), mt_1 (List.mem_of_getElem? (i := 13) rfl), by decide, by decide, by decide +kernel⟩, mt_9 (List.mem_of_getElem? (i := 0) rfl), mt_0 (List.mem_of_getElem? (i := 102) rfl), TX12, 30, rfl⟩
theorem km_X12_isCounted : MVk yX12_isCounted cX12_isCounted 9 (some .boolean) 5 12 := ⟨⟨mt_9 (List.mem_of_getElem? (i := 9) rfl), mt_1 (List.mem_of_getElem? (i := 13) rfl), by decide, by decide, by decide +kernel⟩, mt_9 (List.mem_of_getElem? (i := 8) rfl), mt_0 (List.mem_of_getElem? (i := 104) rfl), TX12, 30, rfl⟩
theorem km_X12_cutLength : MVk yX12_cutLength cX12_cutLength 8 (some .int) 0 12 := ⟨⟨mt_8 (List.mem_of_getElem? (i := 229) rfl), mt_1 (List.mem_of_getElem? (i := 13) rfl), by decide, by decide, by decide +kernel⟩, mt_8 (List.mem_of_getElem? (i := 227) rfl), mt_8 (List.mem_of_getElem? (i := 228) rfl), TX12, 30, rfl⟩
theorem km_X12_creaseLength : MVk yX12_creaseLength cX12_creaseLength 3 (some .int) 0 12 := ⟨⟨mt_9 (List.mem_of_getElem? (i := 13) rfl), mt_1 (List.mem_of_getElem? (i := 13) rfl), by decide, by decide, by decide +kernel⟩, mt_9 (List.mem_of_getElem? (i := 11) rfl), mt_9 (List.mem_of_getElem? (i := 12) rfl), TX12, 30, rfl⟩
theorem km_X12_apart : MSk yX12_apart cX12_apart 4 (some .int) 4 := ⟨⟨mt_9 (List.mem_of_getElem? (i := 40) rfl), mt_1 (List.mem_of_getElem? (i := 13) rfl), by decide, by decide, by decide +kernel⟩, mt_9 (List.mem_of_getElem? (i := 39) rfl)⟩
theorem km_X12_isNear : MVk yX12_isNear cX12_isNear 6 (some .boolean) 5 12 := ⟨⟨mt_9 (List.mem_of_getElem? (i := 37) rfl), mt_1 (List.mem_of_getElem? (i := 13) rfl), by decide, by decide, by decide +kernel⟩, mt_9 (List.mem_of_getElem? (i := 36) rfl), mt_0 (List.mem_of_getElem? (i := 109) rfl), TX12, 30, rfl⟩
theorem km_X12_leastOf : MVk yX12_leastOf cX12_leastOf 4 (some .int) 1 12 := ⟨⟨mt_9 (List.mem_of_getElem? (i := 29) rfl), mt_1 (List.mem_of_getElem? (i := 13) rfl), by decide, by decide, by decide +kernel⟩, mt_9 (List.mem_of_getElem? (i := 28) rfl), mt_0 (List.mem_of_getElem? (i := 107) rfl), TX12, 30, rfl⟩
theorem km_X12_greatestOf : MVk yX12_greatestOf cX12_greatestOf 4 (some .int) 1 12 := ⟨⟨mt_9 (List.mem_of_getElem? (i := 33) rfl), mt_1 (List.mem_of_getElem? (i := 13) rfl), by decide, by decide, by decide +kernel⟩, mt_9 (List.mem_of_getElem? (i := 32) rfl), mt_0 (List.mem_of_getElem? (i := 108) rfl), TX12, 30, rfl⟩
theorem km_X12_isFree : MVk yX12_isFree cX12_isFree 10 (some .boolean) 4 12 := ⟨⟨mt_9 (List.mem_of_getElem? (i := 25) rfl), mt_1 (List.mem_of_getElem? (i := 13) rfl), by decide, by decide, by decide +kernel⟩, mt_9 (List.mem_of_getElem? (i := 24) rfl), mt_0 (List.mem_of_getElem? (i := 106) rfl), TX12, 30, rfl⟩
theorem km_X12_pitchOf : MVk yX12_pitchOf cX12_pitchOf 7 (some .int) 3 12 := ⟨⟨mt_9 (List.mem_of_getElem? (i := 21) rfl), mt_1 (List.mem_of_getElem? (i := 13) rfl), by decide, by decide, by decide +kernel⟩, mt_9 (List.mem_of_getElem? (i := 20) rfl), mt_0 (List.mem_of_getElem? (i := 105) rfl), TX12, 30, rfl⟩
theorem km_X12_pitch : MVk yX12_pitch cX12_pitch 4 (some .int) 3 12 := ⟨⟨mt_9 (List.mem_of_getElem? (i := 17) rfl), mt_1 (List.mem_of_getElem? (i := 13) rfl), by decide, by decide, by decide +kernel⟩, mt_9 (List.mem_of_getElem? (i := 15) rfl), mt_9 (List.mem_of_getElem? (i := 16) rfl), TX12, 30, rfl⟩
theorem km_X12_rowCount : MVk yX12_rowCount cX12_rowCount 4 (some .int) 2 12 := ⟨⟨mt_9 (List.mem_of_getElem? (i := 44) rfl), mt_1 (List.mem_of_getElem? (i := 13) rfl), by decide, by decide, by decide +kernel⟩, mt_9 (List.mem_of_getElem? (i := 42) rfl), mt_9 (List.mem_of_getElem? (i := 43) rfl), TX12, 30, rfl⟩
theorem km_X12_corner : MVk yX12_corner cX12_corner 4 (some .int) 3 12 := ⟨⟨mt_9 (List.mem_of_getElem? (i := 48) rfl), mt_1 (List.mem_of_getElem? (i := 13) rfl), by decide, by decide, by decide +kernel⟩, mt_9 (List.mem_of_getElem? (i := 46) rfl), mt_9 (List.mem_of_getElem? (i := 47) rfl), TX12, 30, rfl⟩
theorem km_X12_facing : MVk yX12_facing cX12_facing 2 (some .int) 1 12 := ⟨⟨mt_9 (List.mem_of_getElem? (i := 52) rfl), mt_1 (List.mem_of_getElem? (i := 13) rfl), by decide, by decide, by decide +kernel⟩, mt_9 (List.mem_of_getElem? (i := 50) rfl), mt_9 (List.mem_of_getElem? (i := 51) rfl), TX12, 30, rfl⟩
theorem km_X12_openLength : MVk yX12_openLength cX12_openLength 3 (some .int) 2 12 := ⟨⟨mt_9 (List.mem_of_getElem? (i := 56) rfl), mt_1 (List.mem_of_getElem? (i := 13) rfl), by decide, by decide, by decide +kernel⟩, mt_9 (List.mem_of_getElem? (i := 54) rfl), mt_9 (List.mem_of_getElem? (i := 55) rfl), TX12, 30, rfl⟩
theorem km_X12_seamCount : MVk yX12_seamCount cX12_seamCount 1 (some .int) 0 12 := ⟨⟨mt_9 (List.mem_of_getElem? (i := 60) rfl), mt_1 (List.mem_of_getElem? (i := 13) rfl), by decide, by decide, by decide +kernel⟩, mt_9 (List.mem_of_getElem? (i := 58) rfl), mt_9 (List.mem_of_getElem? (i := 59) rfl), TX12, 30, rfl⟩
theorem km_X12_seam : MVk yX12_seam cX12_seam 4 (some .int) 2 12 := ⟨⟨mt_9 (List.mem_of_getElem? (i := 64) rfl), mt_1 (List.mem_of_getElem? (i := 13) rfl), by decide, by decide, by decide +kernel⟩, mt_9 (List.mem_of_getElem? (i := 62) rfl), mt_9 (List.mem_of_getElem? (i := 63) rfl), TX12, 30, rfl⟩
theorem km_X12_coverage : MVk yX12_coverage cX12_coverage 2 (some .int) 1 12 := ⟨⟨mt_9 (List.mem_of_getElem? (i := 68) rfl), mt_1 (List.mem_of_getElem? (i := 13) rfl), by decide, by decide, by decide +kernel⟩, mt_9 (List.mem_of_getElem? (i := 66) rfl), mt_9 (List.mem_of_getElem? (i := 67) rfl), TX12, 30, rfl⟩
theorem km_X12_isShut : MVk yX12_isShut cX12_isShut 5 (some .boolean) 1 12 := ⟨⟨mt_9 (List.mem_of_getElem? (i := 76) rfl), mt_1 (List.mem_of_getElem? (i := 13) rfl), by decide, by decide, by decide +kernel⟩, mt_9 (List.mem_of_getElem? (i := 75) rfl), mt_0 (List.mem_of_getElem? (i := 110) rfl), TX12, 30, rfl⟩
theorem km_X12_volume : MVk yX12_volume cX12_volume 5 (some .long) 0 12 := ⟨⟨mt_9 (List.mem_of_getElem? (i := 72) rfl), mt_1 (List.mem_of_getElem? (i := 13) rfl), by decide, by decide, by decide +kernel⟩, mt_9 (List.mem_of_getElem? (i := 70) rfl), mt_9 (List.mem_of_getElem? (i := 71) rfl), TX12, 30, rfl⟩
theorem km_X12_leastTolerance : MVk yX12_leastTolerance cX12_leastTolerance 4 (some .int) 0 12 := ⟨⟨mt_9 (List.mem_of_getElem? (i := 82) rfl), mt_1 (List.mem_of_getElem? (i := 13) rfl), by decide, by decide, by decide +kernel⟩, mt_9 (List.mem_of_getElem? (i := 80) rfl), mt_9 (List.mem_of_getElem? (i := 81) rfl), TX12, 30, rfl⟩
theorem km_X12_crossingsBy : MVk yX12_crossingsBy cX12_crossingsBy 5 (some .int) 1 12 := ⟨⟨mt_9 (List.mem_of_getElem? (i := 90) rfl), mt_1 (List.mem_of_getElem? (i := 13) rfl), by decide, by decide, by decide +kernel⟩, mt_9 (List.mem_of_getElem? (i := 89) rfl), mt_0 (List.mem_of_getElem? (i := 111) rfl), TX12, 30, rfl⟩
theorem km_X12_crossings : MVk yX12_crossings cX12_crossings 2 (some .int) 1 12 := ⟨⟨mt_9 (List.mem_of_getElem? (i := 86) rfl), mt_1 (List.mem_of_getElem? (i := 13) rfl), by decide, by decide, by decide +kernel⟩, mt_9 (List.mem_of_getElem? (i := 84) rfl), mt_9 (List.mem_of_getElem? (i := 85) rfl), TX12, 30, rfl⟩
theorem km_X12_foldStep : MVk yX12_foldStep cX12_foldStep 9 (some .int) 1 12 := ⟨⟨mt_9 (List.mem_of_getElem? (i := 94) rfl), mt_1 (List.mem_of_getElem? (i := 13) rfl), by decide, by decide, by decide +kernel⟩, mt_9 (List.mem_of_getElem? (i := 92) rfl), mt_9 (List.mem_of_getElem? (i := 93) rfl), TX12, 30, rfl⟩
theorem km_X12_imageAt : MVk yX12_imageAt cX12_imageAt 5 (some .int) 4 12 := ⟨⟨mt_9 (List.mem_of_getElem? (i := 101) rfl), mt_1 (List.mem_of_getElem? (i := 13) rfl), by decide, by decide, by decide +kernel⟩, mt_9 (List.mem_of_getElem? (i := 99) rfl), mt_9 (List.mem_of_getElem? (i := 100) rfl), TX12, 30, rfl⟩
theorem km_X12_reach : MVk yX12_reach cX12_reach 3 (some .int) 2 12 := ⟨⟨mt_9 (List.mem_of_getElem? (i := 105) rfl), mt_1 (List.mem_of_getElem? (i := 13) rfl), by decide, by decide, by decide +kernel⟩, mt_9 (List.mem_of_getElem? (i := 103) rfl), mt_9 (List.mem_of_getElem? (i := 104) rfl), TX12, 30, rfl⟩
theorem km_X12_turnedPanels : MVk yX12_turnedPanels cX12_turnedPanels 3 (some .int) 0 12 := ⟨⟨mt_9 (List.mem_of_getElem? (i := 113) rfl), mt_1 (List.mem_of_getElem? (i := 13) rfl), by decide, by decide, by decide +kernel⟩, mt_9 (List.mem_of_getElem? (i := 112) rfl), mt_0 (List.mem_of_getElem? (i := 112) rfl), TX12, 30, rfl⟩
theorem km_X12_flaps : MVk yX12_flaps cX12_flaps 3 (some .int) 0 12 := ⟨⟨mt_9 (List.mem_of_getElem? (i := 117) rfl), mt_1 (List.mem_of_getElem? (i := 13) rfl), by decide, by decide, by decide +kernel⟩, mt_9 (List.mem_of_getElem? (i := 116) rfl), mt_0 (List.mem_of_getElem? (i := 113) rfl), TX12, 30, rfl⟩
theorem km_X12_definedImages : MVk yX12_definedImages cX12_definedImages 3 (some .int) 0 12 := ⟨⟨mt_9 (List.mem_of_getElem? (i := 121) rfl), mt_1 (List.mem_of_getElem? (i := 13) rfl), by decide, by decide, by decide +kernel⟩, mt_9 (List.mem_of_getElem? (i := 120) rfl), mt_0 (List.mem_of_getElem? (i := 114) rfl), TX12, 30, rfl⟩
theorem km_X12_count : MVk yX12_count cX12_count 2 (some .int) 1 12 := ⟨⟨mt_9 (List.mem_of_getElem? (i := 109) rfl), mt_1 (List.mem_of_getElem? (i := 13) rfl), by decide, by decide, by decide +kernel⟩, mt_9 (List.mem_of_getElem? (i := 107) rfl), mt_9 (List.mem_of_getElem? (i := 108) rfl), TX12, 30, rfl⟩
theorem km_J9_abs_0f7a4 : MSk yJ9_abs_0f7a4 cJ9_abs_0f7a4 1 (some .int) 1 := ⟨⟨mt_4 (List.mem_of_getElem? (i := 125) rfl), mt_1 (List.mem_of_getElem? (i := 14) rfl), by decide, by decide, by decide +kernel⟩, mt_4 (List.mem_of_getElem? (i := 124) rfl)⟩
theorem km_J9_abs_067f4 : MSk yJ9_abs_067f4 cJ9_abs_067f4 2 (some .long) 1 := ⟨⟨mt_5 (List.mem_of_getElem? (i := 234) rfl), mt_1 (List.mem_of_getElem? (i := 14) rfl), by decide, by decide, by decide +kernel⟩, mt_5 (List.mem_of_getElem? (i := 233) rfl)⟩
theorem km_J9_max_7cf53 : MSk yJ9_max_7cf53 cJ9_max_7cf53 2 (some .int) 2 := ⟨⟨mt_4 (List.mem_of_getElem? (i := 101) rfl), mt_1 (List.mem_of_getElem? (i := 14) rfl), by decide, by decide, by decide +kernel⟩, mt_4 (List.mem_of_getElem? (i := 100) rfl)⟩
theorem km_J9_min_7cf53 : MSk yJ9_min_7cf53 cJ9_min_7cf53 2 (some .int) 2 := ⟨⟨mt_4 (List.mem_of_getElem? (i := 98) rfl), mt_1 (List.mem_of_getElem? (i := 14) rfl), by decide, by decide, by decide +kernel⟩, mt_4 (List.mem_of_getElem? (i := 97) rfl)⟩
end
section
theorem kl_RX11_1 : Cond.methodLink RX11 1 Lib.objectInit ∈ lw_tbl := mt_1 (List.mem_of_getElem? (i := 20) rfl)
theorem kl_RX11_9 : Cond.methodLink RX11 9 yX3_init ∈ lw_tbl := mt_1 (List.mem_of_getElem? (i := 25) rfl)
theorem kl_RX11_29 : Cond.methodLink RX11 29 yX6_init ∈ lw_tbl := mt_1 (List.mem_of_getElem? (i := 166) rfl)
theorem kl_RX11_40 : Cond.methodLinkNest RX11 40 yX9_init RX11 ∈ lw_tbl := mt_1 (List.mem_of_getElem? (i := 194) rfl)
theorem kl_RX11_47 : Cond.methodLinkNest RX11 47 yX1_init RX11 ∈ lw_tbl := mt_1 (List.mem_of_getElem? (i := 229) rfl)
theorem kl_RX11_54 : Cond.methodLinkNest RX11 54 yX4_init RX11 ∈ lw_tbl := mt_2 (List.mem_of_getElem? (i := 18) rfl)
theorem kl_RX11_89 : Cond.methodLink RX11 89 yX9_read ∈ lw_tbl := mt_3 (List.mem_of_getElem? (i := 39) rfl)
theorem kl_RX11_99 : Cond.methodLink RX11 99 yX3_become ∈ lw_tbl := mt_3 (List.mem_of_getElem? (i := 189) rfl)
theorem kl_RX11_103 : Cond.methodLink RX11 103 yX6_forgetAll ∈ lw_tbl := mt_3 (List.mem_of_getElem? (i := 197) rfl)
theorem kl_RX11_106 : Cond.methodLink RX11 106 yX3_sheetFault ∈ lw_tbl := mt_3 (List.mem_of_getElem? (i := 209) rfl)
theorem kl_RX11_110 : Cond.methodLink RX11 110 yX6_remember ∈ lw_tbl := mt_3 (List.mem_of_getElem? (i := 210) rfl)
theorem kl_RX11_114 : Cond.methodLink RX11 114 yX3_changeSheet ∈ lw_tbl := mt_3 (List.mem_of_getElem? (i := 218) rfl)
theorem kl_RX11_117 : Cond.methodLink RX11 117 yX3_baseFault ∈ lw_tbl := mt_3 (List.mem_of_getElem? (i := 223) rfl)
theorem kl_RX11_121 : Cond.methodLink RX11 121 yX3_startBase ∈ lw_tbl := mt_3 (List.mem_of_getElem? (i := 224) rfl)
theorem kl_RX11_124 : Cond.methodLink RX11 124 yX3_hangFault ∈ lw_tbl := mt_3 (List.mem_of_getElem? (i := 229) rfl)
theorem kl_RX11_128 : Cond.methodLink RX11 128 yX3_hang ∈ lw_tbl := mt_3 (List.mem_of_getElem? (i := 230) rfl)
theorem kl_RX11_131 : Cond.methodLink RX11 131 yX3_dropFault ∈ lw_tbl := mt_3 (List.mem_of_getElem? (i := 235) rfl)
theorem kl_RX11_135 : Cond.methodLink RX11 135 yX3_dropLast ∈ lw_tbl := mt_3 (List.mem_of_getElem? (i := 239) rfl)
theorem kl_RX11_138 : Cond.methodLink RX11 138 yX3_hangs ∈ lw_tbl := mt_4 (List.mem_of_getElem? (i := 7) rfl)
theorem kl_RX11_142 : Cond.methodLink RX11 142 yX11_isAngle ∈ lw_tbl := mt_4 (List.mem_of_getElem? (i := 8) rfl)
theorem kl_RX11_145 : Cond.methodLink RX11 145 yX3_turnFold ∈ lw_tbl := mt_4 (List.mem_of_getElem? (i := 9) rfl)
theorem kl_RX11_148 : Cond.methodLink RX11 148 yX3_sizeFault ∈ lw_tbl := mt_4 (List.mem_of_getElem? (i := 17) rfl)
theorem kl_RX11_152 : Cond.methodLink RX11 152 yX3_changeSize ∈ lw_tbl := mt_4 (List.mem_of_getElem? (i := 33) rfl)
theorem kl_RX11_155 : Cond.methodLink RX11 155 yX3_flapFault ∈ lw_tbl := mt_4 (List.mem_of_getElem? (i := 38) rfl)
theorem kl_RX11_158 : Cond.methodLink RX11 158 yX3_changeTarget ∈ lw_tbl := mt_4 (List.mem_of_getElem? (i := 39) rfl)
theorem kl_RX11_161 : Cond.methodLink RX11 161 yX3_imageFault ∈ lw_tbl := mt_4 (List.mem_of_getElem? (i := 44) rfl)
theorem kl_RX11_164 : Cond.methodLink RX11 164 yX3_changeImage ∈ lw_tbl := mt_4 (List.mem_of_getElem? (i := 45) rfl)
theorem kl_RX11_167 : Cond.methodLink RX11 167 yX3_printFault ∈ lw_tbl := mt_4 (List.mem_of_getElem? (i := 50) rfl)
theorem kl_RX11_171 : Cond.methodLink RX11 171 yX3_print ∈ lw_tbl := mt_4 (List.mem_of_getElem? (i := 51) rfl)
theorem kl_RX11_174 : Cond.methodLink RX11 174 yX3_bareFault ∈ lw_tbl := mt_4 (List.mem_of_getElem? (i := 56) rfl)
theorem kl_RX11_178 : Cond.methodLink RX11 178 yX3_wipe ∈ lw_tbl := mt_4 (List.mem_of_getElem? (i := 60) rfl)
theorem kl_RX11_181 : Cond.methodLink RX11 181 yX11_findSeams ∈ lw_tbl := mt_4 (List.mem_of_getElem? (i := 68) rfl)
theorem kl_RX11_184 : Cond.methodLink RX11 184 yX10_has ∈ lw_tbl := mt_4 (List.mem_of_getElem? (i := 128) rfl)
theorem kl_RX11_189 : Cond.methodLink RX11 189 yX0_plan ∈ lw_tbl := mt_4 (List.mem_of_getElem? (i := 132) rfl)
theorem kl_RX11_195 : Cond.methodLink RX11 195 yX0_carryOut ∈ lw_tbl := mt_4 (List.mem_of_getElem? (i := 232) rfl)
theorem kl_RX11_201 : Cond.methodLink RX11 201 yX3_panelAt ∈ lw_tbl := mt_5 (List.mem_of_getElem? (i := 1) rfl)
theorem kl_RX11_210 : Cond.methodLink RX11 210 yX0_spread ∈ lw_tbl := mt_5 (List.mem_of_getElem? (i := 2) rfl)
theorem kl_RX11_217 : Cond.methodLink RX11 217 yX6_recall ∈ lw_tbl := mt_5 (List.mem_of_getElem? (i := 28) rfl)
theorem kl_RX11_223 : Cond.methodLink RX11 223 yX3_has ∈ lw_tbl := mt_5 (List.mem_of_getElem? (i := 44) rfl)
theorem kl_RX11_236 : Cond.methodLink RX11 236 yX1_cuts ∈ lw_tbl := mt_5 (List.mem_of_getElem? (i := 49) rfl)
theorem kl_RX11_240 : Cond.methodLink RX11 240 yX1_creases ∈ lw_tbl := mt_5 (List.mem_of_getElem? (i := 87) rfl)
theorem kl_RX11_243 : Cond.methodLink RX11 243 yX11_pitchFault ∈ lw_tbl := mt_5 (List.mem_of_getElem? (i := 95) rfl)
theorem kl_RX11_246 : Cond.methodLink RX11 246 yX1_leastPitch ∈ lw_tbl := mt_5 (List.mem_of_getElem? (i := 99) rfl)
theorem kl_RX11_250 : Cond.methodLink RX11 250 yX1_copiesInRow ∈ lw_tbl := mt_5 (List.mem_of_getElem? (i := 128) rfl)
theorem kl_RX11_254 : Cond.methodLink RX11 254 yX5_fold ∈ lw_tbl := mt_4 (List.mem_of_getElem? (i := 72) rfl)
theorem kl_RX11_260 : Cond.methodLink RX11 260 yX5_poseAt ∈ lw_tbl := mt_5 (List.mem_of_getElem? (i := 137) rfl)
theorem kl_RX11_264 : Cond.methodLink RX11 264 yX8_cornerAt ∈ lw_tbl := mt_5 (List.mem_of_getElem? (i := 138) rfl)
theorem kl_RX11_272 : Cond.methodLink RX11 272 yX10_open ∈ lw_tbl := mt_5 (List.mem_of_getElem? (i := 147) rfl)
theorem kl_RX11_278 : Cond.methodLink RX11 278 yX0_mismatch ∈ lw_tbl := mt_5 (List.mem_of_getElem? (i := 162) rfl)
theorem kl_RX11_281 : Cond.methodLink RX11 281 yX10_value ∈ lw_tbl := mt_5 (List.mem_of_getElem? (i := 167) rfl)
theorem kl_RX11_284 : Cond.methodLink RX11 284 yX7_isFlap ∈ lw_tbl := mt_5 (List.mem_of_getElem? (i := 192) rfl)
theorem kl_RX11_288 : Cond.methodLink RX11 288 yX5_covered ∈ lw_tbl := mt_5 (List.mem_of_getElem? (i := 193) rfl)
theorem kl_RX11_291 : Cond.methodLink RX11 291 yX4_anyOpen ∈ lw_tbl := mt_5 (List.mem_of_getElem? (i := 219) rfl)
theorem kl_RX11_297 : Cond.methodLink RX11 297 yX5_enclosed ∈ lw_tbl := mt_5 (List.mem_of_getElem? (i := 227) rfl)
theorem kl_RX11_301 : Cond.methodLink RX11 301 yX4_isClosed ∈ lw_tbl := mt_6 (List.mem_of_getElem? (i := 0) rfl)
theorem kl_RX11_305 : Cond.methodLink RX11 305 yX5_crossingPairs ∈ lw_tbl := mt_6 (List.mem_of_getElem? (i := 15) rfl)
theorem kl_RX11_308 : Cond.methodLink RX11 308 yX5_findOrder ∈ lw_tbl := mt_6 (List.mem_of_getElem? (i := 32) rfl)
theorem kl_RX11_311 : Cond.methodLink RX11 311 yX5_orderAt ∈ lw_tbl := mt_6 (List.mem_of_getElem? (i := 42) rfl)
theorem kl_RX11_314 : Cond.methodLink RX11 314 yX11_isPosition ∈ lw_tbl := mt_6 (List.mem_of_getElem? (i := 50) rfl)
theorem kl_RX11_317 : Cond.methodLink RX11 317 yX0_imageU ∈ lw_tbl := mt_6 (List.mem_of_getElem? (i := 51) rfl)
theorem kl_RX11_321 : Cond.methodLink RX11 321 yX0_imageV ∈ lw_tbl := mt_6 (List.mem_of_getElem? (i := 52) rfl)
theorem kl_RX11_324 : Cond.methodLink RX11 324 yX0_reachAt ∈ lw_tbl := mt_6 (List.mem_of_getElem? (i := 57) rfl)
theorem kl_RX11_328 : Cond.methodLink RX11 328 yX4_collect ∈ lw_tbl := mt_6 (List.mem_of_getElem? (i := 62) rfl)
theorem kl_RX11_332 : Cond.methodLink RX11 332 yX4_sort ∈ lw_tbl := mt_6 (List.mem_of_getElem? (i := 135) rfl)
theorem kl_RX11_335 : Cond.methodLink RX11 335 yX4_value ∈ lw_tbl := mt_6 (List.mem_of_getElem? (i := 139) rfl)
theorem kl_RX11_343 : Cond.methodLink RX11 343 yX4_sumAbout ∈ lw_tbl := mt_6 (List.mem_of_getElem? (i := 167) rfl)
theorem kl_RX11_350 : Cond.methodLink RX11 350 yX3_layOutAll ∈ lw_tbl := mt_6 (List.mem_of_getElem? (i := 175) rfl)
theorem kl_RX11_353 : Cond.methodLink RX11 353 yX3_isValid ∈ lw_tbl := mt_6 (List.mem_of_getElem? (i := 176) rfl)
theorem kl_RX11_356 : Cond.methodLink RX11 356 yJ9_abs_0f7a4 ∈ lw_tbl := mt_6 (List.mem_of_getElem? (i := 177) rfl)
theorem kl_RX11_364 : Cond.methodLink RX11 364 yX3_foldedPanels ∈ lw_tbl := mt_6 (List.mem_of_getElem? (i := 186) rfl)
theorem kl_RX11_367 : Cond.methodLink RX11 367 yX3_flaps ∈ lw_tbl := mt_6 (List.mem_of_getElem? (i := 190) rfl)
theorem kl_RX11_370 : Cond.methodLink RX11 370 yX3_definedImages ∈ lw_tbl := mt_6 (List.mem_of_getElem? (i := 195) rfl)
theorem kl_RX11_373 : Cond.methodLink RX11 373 yX10_find ∈ lw_tbl := mt_4 (List.mem_of_getElem? (i := 114) rfl)
theorem kl_RX11_377 : Cond.methodLink RX11 377 yJ9_min_7cf53 ∈ lw_tbl := mt_5 (List.mem_of_getElem? (i := 114) rfl)
theorem kl_RX11_380 : Cond.methodLink RX11 380 yJ9_max_7cf53 ∈ lw_tbl := mt_5 (List.mem_of_getElem? (i := 115) rfl)
theorem kl_RX0_3 : Cond.methodLink RX0 3 Lib.objectInit ∈ lw_tbl := mt_2 (List.mem_of_getElem? (i := 27) rfl)
theorem kl_RX0_29 : Cond.methodLinkNest RX0 29 yX10_init RX11 ∈ lw_tbl := mt_2 (List.mem_of_getElem? (i := 30) rfl)
theorem kl_RX0_56 : Cond.methodLink RX0 56 yX3_imageWidthOf ∈ lw_tbl := mt_4 (List.mem_of_getElem? (i := 160) rfl)
theorem kl_RX0_64 : Cond.methodLink RX0 64 yX0_originalU ∈ lw_tbl := mt_4 (List.mem_of_getElem? (i := 212) rfl)
theorem kl_RX0_68 : Cond.methodLink RX0 68 yX3_imageHeightOf ∈ lw_tbl := mt_4 (List.mem_of_getElem? (i := 164) rfl)
theorem kl_RX0_71 : Cond.methodLink RX0 71 yX0_originalV ∈ lw_tbl := mt_4 (List.mem_of_getElem? (i := 218) rfl)
theorem kl_RX0_74 : Cond.methodLink RX0 74 yX0_rightEnd ∈ lw_tbl := mt_4 (List.mem_of_getElem? (i := 157) rfl)
theorem kl_RX0_78 : Cond.methodLink RX0 78 yX0_upperEnd ∈ lw_tbl := mt_4 (List.mem_of_getElem? (i := 168) rfl)
theorem kl_RX0_81 : Cond.methodLink RX0 81 yX0_isSeen ∈ lw_tbl := mt_4 (List.mem_of_getElem? (i := 171) rfl)
theorem kl_RX0_91 : Cond.methodLink RX0 91 yX10_panelP ∈ lw_tbl := mt_4 (List.mem_of_getElem? (i := 141) rfl)
theorem kl_RX0_94 : Cond.methodLink RX0 94 yX5_poseAt ∈ lw_tbl := mt_4 (List.mem_of_getElem? (i := 178) rfl)
theorem kl_RX0_100 : Cond.methodLink RX0 100 yX10_panelQ ∈ lw_tbl := mt_4 (List.mem_of_getElem? (i := 136) rfl)
theorem kl_RX0_103 : Cond.methodLink RX0 103 yX10_sideOfP ∈ lw_tbl := mt_4 (List.mem_of_getElem? (i := 150) rfl)
theorem kl_RX0_106 : Cond.methodLink RX0 106 yX10_sideOfQ ∈ lw_tbl := mt_4 (List.mem_of_getElem? (i := 146) rfl)
theorem kl_RX0_109 : Cond.methodLink RX0 109 yX10_lowOf ∈ lw_tbl := mt_4 (List.mem_of_getElem? (i := 179) rfl)
theorem kl_RX0_112 : Cond.methodLink RX0 112 yX10_highOf ∈ lw_tbl := mt_4 (List.mem_of_getElem? (i := 183) rfl)
theorem kl_RX0_115 : Cond.methodLink RX0 115 yX8_pointX ∈ lw_tbl := mt_4 (List.mem_of_getElem? (i := 187) rfl)
theorem kl_RX0_120 : Cond.methodLink RX0 120 yX8_pointY ∈ lw_tbl := mt_4 (List.mem_of_getElem? (i := 192) rfl)
theorem kl_RX0_122 : Cond.methodLink RX0 122 yX0_takePoint ∈ lw_tbl := mt_4 (List.mem_of_getElem? (i := 196) rfl)
theorem kl_RX0_132 : Cond.methodLink RX0 132 yJ9_max_7cf53 ∈ lw_tbl := mt_4 (List.mem_of_getElem? (i := 208) rfl)
theorem kl_RX0_137 : Cond.methodLink RX0 137 yX0_imageU ∈ lw_tbl := mt_4 (List.mem_of_getElem? (i := 209) rfl)
theorem kl_RX0_141 : Cond.methodLink RX0 141 yX0_imageV ∈ lw_tbl := mt_4 (List.mem_of_getElem? (i := 215) rfl)
theorem kl_RX0_144 : Cond.methodLink RX0 144 yX3_panelAt ∈ lw_tbl := mt_4 (List.mem_of_getElem? (i := 145) rfl)
theorem kl_RX0_148 : Cond.methodLink RX0 148 yX0_reachAt ∈ lw_tbl := mt_4 (List.mem_of_getElem? (i := 154) rfl)
theorem kl_RX0_152 : Cond.methodLink RX0 152 yX0_takePoints ∈ lw_tbl := mt_4 (List.mem_of_getElem? (i := 174) rfl)
theorem kl_RX0_156 : Cond.methodLink RX0 156 yX0_takeCoordinates ∈ lw_tbl := mt_4 (List.mem_of_getElem? (i := 204) rfl)
theorem kl_RX0_160 : Cond.methodLink RX0 160 yJ9_abs_0f7a4 ∈ lw_tbl := mt_5 (List.mem_of_getElem? (i := 166) rfl)
theorem kl_RX0_163 : Cond.methodLink RX0 163 yX0_agrees ∈ lw_tbl := mt_4 (List.mem_of_getElem? (i := 221) rfl)
theorem kl_RX0_167 : Cond.methodLinkNest RX0 167 yX11_isPosition RX11 ∈ lw_tbl := mt_4 (List.mem_of_getElem? (i := 231) rfl)
theorem kl_RX0_171 : Cond.methodLink RX0 171 yX0_turnedA ∈ lw_tbl := mt_4 (List.mem_of_getElem? (i := 225) rfl)
theorem kl_RX0_175 : Cond.methodLink RX0 175 yX0_turnedB ∈ lw_tbl := mt_4 (List.mem_of_getElem? (i := 228) rfl)
theorem kl_RX0_178 : Cond.methodLink RX0 178 yX3_print ∈ lw_tbl := mt_4 (List.mem_of_getElem? (i := 236) rfl)
theorem kl_RX0_181 : Cond.methodLink RX0 181 yX0_spreadOnce ∈ lw_tbl := mt_5 (List.mem_of_getElem? (i := 6) rfl)
theorem kl_RX0_188 : Cond.methodLink RX0 188 yX7_isFlap ∈ lw_tbl := mt_5 (List.mem_of_getElem? (i := 10) rfl)
theorem kl_RX0_192 : Cond.methodLink RX0 192 yX0_plan ∈ lw_tbl := mt_5 (List.mem_of_getElem? (i := 14) rfl)
theorem kl_RX0_195 : Cond.methodLink RX0 195 yX0_carryOut ∈ lw_tbl := mt_5 (List.mem_of_getElem? (i := 15) rfl)
theorem kl_RX1_1 : Cond.methodLink RX1 1 Lib.objectInit ∈ lw_tbl := mt_1 (List.mem_of_getElem? (i := 232) rfl)
theorem kl_RX1_9 : Cond.methodLinkNest RX1 9 yX2_init RX11 ∈ lw_tbl := mt_1 (List.mem_of_getElem? (i := 235) rfl)
theorem kl_RX1_26 : Cond.methodLink RX1 26 yX3_panelAt ∈ lw_tbl := mt_5 (List.mem_of_getElem? (i := 57) rfl)
theorem kl_RX1_38 : Cond.methodLink RX1 38 yX1_newLine ∈ lw_tbl := mt_5 (List.mem_of_getElem? (i := 53) rfl)
theorem kl_RX1_42 : Cond.methodLink RX1 42 yX1_lineOf ∈ lw_tbl := mt_5 (List.mem_of_getElem? (i := 58) rfl)
theorem kl_RX1_46 : Cond.methodLink RX1 46 yX2_empty ∈ lw_tbl := mt_5 (List.mem_of_getElem? (i := 69) rfl)
theorem kl_RX1_49 : Cond.methodLink RX1 49 yX7_lowOn ∈ lw_tbl := mt_5 (List.mem_of_getElem? (i := 61) rfl)
theorem kl_RX1_53 : Cond.methodLink RX1 53 yX7_highOn ∈ lw_tbl := mt_5 (List.mem_of_getElem? (i := 65) rfl)
theorem kl_RX1_56 : Cond.methodLink RX1 56 yX2_add ∈ lw_tbl := mt_5 (List.mem_of_getElem? (i := 73) rfl)
theorem kl_RX1_60 : Cond.methodLink RX1 60 yX2_uncovered ∈ lw_tbl := mt_5 (List.mem_of_getElem? (i := 77) rfl)
theorem kl_RX1_64 : Cond.methodLink RX1 64 yX1_leastPitch ∈ lw_tbl := mt_5 (List.mem_of_getElem? (i := 132) rfl)
theorem kl_RX1_74 : Cond.methodLink RX1 74 yX1_greatest ∈ lw_tbl := mt_5 (List.mem_of_getElem? (i := 107) rfl)
theorem kl_RX1_78 : Cond.methodLink RX1 78 yX1_smallest ∈ lw_tbl := mt_5 (List.mem_of_getElem? (i := 103) rfl)
theorem kl_RX1_81 : Cond.methodLink RX1 81 yJ9_min_7cf53 ∈ lw_tbl := mt_5 (List.mem_of_getElem? (i := 106) rfl)
theorem kl_RX1_86 : Cond.methodLink RX1 86 yJ9_max_7cf53 ∈ lw_tbl := mt_5 (List.mem_of_getElem? (i := 110) rfl)
theorem kl_RX1_89 : Cond.methodLinkNest RX1 89 yX11_common RX11 ∈ lw_tbl := mt_5 (List.mem_of_getElem? (i := 111) rfl)
theorem kl_RX1_95 : Cond.methodLink RX1 95 yX1_take ∈ lw_tbl := mt_5 (List.mem_of_getElem? (i := 116) rfl)
theorem kl_RX1_98 : Cond.methodLink RX1 98 yX1_isFree ∈ lw_tbl := mt_5 (List.mem_of_getElem? (i := 120) rfl)
theorem kl_RX2_3 : Cond.methodLink RX2 3 Lib.objectInit ∈ lw_tbl := mt_1 (List.mem_of_getElem? (i := 238) rfl)
theorem kl_RX2_22 : Cond.methodLink RX2 22 yJ9_min_7cf53 ∈ lw_tbl := mt_5 (List.mem_of_getElem? (i := 81) rfl)
theorem kl_RX2_28 : Cond.methodLink RX2 28 yJ9_max_7cf53 ∈ lw_tbl := mt_5 (List.mem_of_getElem? (i := 82) rfl)
theorem kl_RX3_3 : Cond.methodLink RX3 3 Lib.objectInit ∈ lw_tbl := mt_1 (List.mem_of_getElem? (i := 28) rfl)
theorem kl_RX3_34 : Cond.methodLinkNest RX3 34 yX7_init RX11 ∈ lw_tbl := mt_1 (List.mem_of_getElem? (i := 32) rfl)
theorem kl_RX3_39 : Cond.methodLink RX3 39 yX3_panelAt ∈ lw_tbl := mt_3 (List.mem_of_getElem? (i := 81) rfl)
theorem kl_RX3_43 : Cond.methodLink RX3 43 yX7_become ∈ lw_tbl := mt_3 (List.mem_of_getElem? (i := 193) rfl)
theorem kl_RX3_59 : Cond.methodLinkNest RX3 59 yX11_isOffset RX11 ∈ lw_tbl := mt_3 (List.mem_of_getElem? (i := 93) rfl)
theorem kl_RX3_63 : Cond.methodLinkNest RX3 63 yX11_isLength RX11 ∈ lw_tbl := mt_3 (List.mem_of_getElem? (i := 96) rfl)
theorem kl_RX3_66 : Cond.methodLink RX3 66 yX7_makePlain ∈ lw_tbl := mt_3 (List.mem_of_getElem? (i := 103) rfl)
theorem kl_RX3_78 : Cond.methodLink RX3 78 yX3_has ∈ lw_tbl := mt_3 (List.mem_of_getElem? (i := 115) rfl)
theorem kl_RX3_81 : Cond.methodLinkNest RX3 81 yX11_isAngle RX11 ∈ lw_tbl := mt_3 (List.mem_of_getElem? (i := 119) rfl)
theorem kl_RX3_84 : Cond.methodLink RX3 84 yX3_draft ∈ lw_tbl := mt_3 (List.mem_of_getElem? (i := 122) rfl)
theorem kl_RX3_88 : Cond.methodLink RX3 88 yX3_fits ∈ lw_tbl := mt_3 (List.mem_of_getElem? (i := 129) rfl)
theorem kl_RX3_100 : Cond.methodLink RX3 100 yX3_layOut ∈ lw_tbl := mt_3 (List.mem_of_getElem? (i := 126) rfl)
theorem kl_RX3_104 : Cond.methodLink RX3 104 yX7_sideLength ∈ lw_tbl := mt_3 (List.mem_of_getElem? (i := 133) rfl)
theorem kl_RX3_108 : Cond.methodLink RX3 108 yX7_overlaps ∈ lw_tbl := mt_3 (List.mem_of_getElem? (i := 137) rfl)
theorem kl_RX3_115 : Cond.methodLink RX3 115 yX3_hangs ∈ lw_tbl := mt_3 (List.mem_of_getElem? (i := 154) rfl)
theorem kl_RX3_118 : Cond.methodLink RX3 118 yX3_changeSize ∈ lw_tbl := mt_4 (List.mem_of_getElem? (i := 21) rfl)
theorem kl_RX3_122 : Cond.methodLink RX3 122 yX3_isValid ∈ lw_tbl := mt_4 (List.mem_of_getElem? (i := 29) rfl)
theorem kl_RX3_126 : Cond.methodLink RX3 126 yX3_layOutAll ∈ lw_tbl := mt_4 (List.mem_of_getElem? (i := 25) rfl)
theorem kl_RX3_129 : Cond.methodLink RX3 129 yX3_hasImage ∈ lw_tbl := mt_3 (List.mem_of_getElem? (i := 170) rfl)
theorem kl_RX3_132 : Cond.methodLinkNest RX3 132 yX11_isPosition RX11 ∈ lw_tbl := mt_3 (List.mem_of_getElem? (i := 182) rfl)
theorem kl_RX3_147 : Cond.methodLink RX3 147 yX7_isFlap ∈ lw_tbl := mt_6 (List.mem_of_getElem? (i := 194) rfl)
theorem kl_RX3_150 : Cond.methodLink RX3 150 yX7_nearSide ∈ lw_tbl := mt_6 (List.mem_of_getElem? (i := 110) rfl)
theorem kl_RX3_154 : Cond.methodLink RX3 154 yX7_hangsOn ∈ lw_tbl := mt_6 (List.mem_of_getElem? (i := 111) rfl)
theorem kl_RX4_3 : Cond.methodLink RX4 3 Lib.objectInit ∈ lw_tbl := mt_2 (List.mem_of_getElem? (i := 21) rfl)
theorem kl_RX4_28 : Cond.methodLinkNest RX4 28 yX0_init RX11 ∈ lw_tbl := mt_2 (List.mem_of_getElem? (i := 24) rfl)
theorem kl_RX4_49 : Cond.methodLink RX4 49 yX5_fold ∈ lw_tbl := mt_6 (List.mem_of_getElem? (i := 66) rfl)
theorem kl_RX4_55 : Cond.methodLink RX4 55 yX4_limit ∈ lw_tbl := mt_6 (List.mem_of_getElem? (i := 5) rfl)
theorem kl_RX4_59 : Cond.methodLink RX4 59 yX10_find ∈ lw_tbl := mt_6 (List.mem_of_getElem? (i := 9) rfl)
theorem kl_RX4_63 : Cond.methodLink RX4 63 yX4_collectPairs ∈ lw_tbl := mt_6 (List.mem_of_getElem? (i := 67) rfl)
theorem kl_RX4_72 : Cond.methodLink RX4 72 yX3_panelAt ∈ lw_tbl := mt_5 (List.mem_of_getElem? (i := 223) rfl)
theorem kl_RX4_76 : Cond.methodLink RX4 76 yX7_isFlap ∈ lw_tbl := mt_5 (List.mem_of_getElem? (i := 224) rfl)
theorem kl_RX4_82 : Cond.methodLink RX4 82 yX4_collectFlap ∈ lw_tbl := mt_6 (List.mem_of_getElem? (i := 82) rfl)
theorem kl_RX4_85 : Cond.methodLink RX4 85 yX4_collectOpen ∈ lw_tbl := mt_6 (List.mem_of_getElem? (i := 97) rfl)
theorem kl_RX4_88 : Cond.methodLink RX4 88 yX0_shows ∈ lw_tbl := mt_6 (List.mem_of_getElem? (i := 86) rfl)
theorem kl_RX4_92 : Cond.methodLink RX4 92 yX4_collectPrint ∈ lw_tbl := mt_6 (List.mem_of_getElem? (i := 101) rfl)
theorem kl_RX4_95 : Cond.methodLink RX4 95 yX4_collectBreaks ∈ lw_tbl := mt_6 (List.mem_of_getElem? (i := 123) rfl)
theorem kl_RX4_98 : Cond.methodLink RX4 98 yX4_weight ∈ lw_tbl := mt_6 (List.mem_of_getElem? (i := 76) rfl)
theorem kl_RX4_103 : Cond.methodLink RX4 103 yX10_open ∈ lw_tbl := mt_5 (List.mem_of_getElem? (i := 225) rfl)
theorem kl_RX4_107 : Cond.methodLink RX4 107 yX4_add ∈ lw_tbl := mt_6 (List.mem_of_getElem? (i := 72) rfl)
theorem kl_RX4_111 : Cond.methodLink RX4 111 yX5_crossing ∈ lw_tbl := mt_6 (List.mem_of_getElem? (i := 71) rfl)
theorem kl_RX4_118 : Cond.methodLink RX4 118 yX5_doubled ∈ lw_tbl := mt_6 (List.mem_of_getElem? (i := 81) rfl)
theorem kl_RX4_121 : Cond.methodLink RX4 121 yX5_covered ∈ lw_tbl := mt_6 (List.mem_of_getElem? (i := 4) rfl)
theorem kl_RX4_125 : Cond.methodLink RX4 125 yX4_inkDistance ∈ lw_tbl := mt_6 (List.mem_of_getElem? (i := 89) rfl)
theorem kl_RX4_129 : Cond.methodLink RX4 129 yX7_nearSide ∈ lw_tbl := mt_6 (List.mem_of_getElem? (i := 92) rfl)
theorem kl_RX4_136 : Cond.methodLink RX4 136 yX0_upperEnd ∈ lw_tbl := mt_6 (List.mem_of_getElem? (i := 93) rfl)
theorem kl_RX4_139 : Cond.methodLink RX4 139 yJ9_min_7cf53 ∈ lw_tbl := mt_6 (List.mem_of_getElem? (i := 94) rfl)
theorem kl_RX4_150 : Cond.methodLink RX4 150 yJ9_max_7cf53 ∈ lw_tbl := mt_6 (List.mem_of_getElem? (i := 95) rfl)
theorem kl_RX4_156 : Cond.methodLink RX4 156 yX0_rightEnd ∈ lw_tbl := mt_6 (List.mem_of_getElem? (i := 96) rfl)
theorem kl_RX4_159 : Cond.methodLink RX4 159 yX0_reachAt ∈ lw_tbl := mt_6 (List.mem_of_getElem? (i := 105) rfl)
theorem kl_RX4_163 : Cond.methodLink RX4 163 yX3_isAllFolds ∈ lw_tbl := mt_6 (List.mem_of_getElem? (i := 106) rfl)
theorem kl_RX4_167 : Cond.methodLink RX4 167 yX4_beyondSheet ∈ lw_tbl := mt_6 (List.mem_of_getElem? (i := 112) rfl)
theorem kl_RX4_171 : Cond.methodLink RX4 171 yX4_collectIntrusions ∈ lw_tbl := mt_6 (List.mem_of_getElem? (i := 115) rfl)
theorem kl_RX4_187 : Cond.methodLink RX4 187 yX7_lowOn ∈ lw_tbl := mt_6 (List.mem_of_getElem? (i := 119) rfl)
theorem kl_RX4_190 : Cond.methodLink RX4 190 yX7_highOn ∈ lw_tbl := mt_6 (List.mem_of_getElem? (i := 120) rfl)
theorem kl_RX4_193 : Cond.methodLink RX4 193 yX7_hangsOn ∈ lw_tbl := mt_6 (List.mem_of_getElem? (i := 121) rfl)
theorem kl_RX4_199 : Cond.methodLinkNest RX4 199 yX11_common RX11 ∈ lw_tbl := mt_6 (List.mem_of_getElem? (i := 122) rfl)
theorem kl_RX4_204 : Cond.methodLink RX4 204 yX0_mismatch ∈ lw_tbl := mt_6 (List.mem_of_getElem? (i := 127) rfl)
theorem kl_RX4_208 : Cond.methodLink RX4 208 yX10_panelP ∈ lw_tbl := mt_6 (List.mem_of_getElem? (i := 128) rfl)
theorem kl_RX4_211 : Cond.methodLink RX4 211 yX10_sideOfP ∈ lw_tbl := mt_6 (List.mem_of_getElem? (i := 129) rfl)
theorem kl_RX4_214 : Cond.methodLink RX4 214 yX10_panelQ ∈ lw_tbl := mt_6 (List.mem_of_getElem? (i := 130) rfl)
theorem kl_RX4_217 : Cond.methodLink RX4 217 yX4_anyOpen ∈ lw_tbl := mt_6 (List.mem_of_getElem? (i := 10) rfl)
theorem kl_RX4_221 : Cond.methodLink RX4 221 yX4_kindOf ∈ lw_tbl := mt_6 (List.mem_of_getElem? (i := 143) rfl)
theorem kl_RX4_225 : Cond.methodLink RX4 225 yX4_panelOf ∈ lw_tbl := mt_6 (List.mem_of_getElem? (i := 146) rfl)
theorem kl_RX4_228 : Cond.methodLink RX4 228 yX4_sideOf ∈ lw_tbl := mt_6 (List.mem_of_getElem? (i := 149) rfl)
theorem kl_RX4_231 : Cond.methodLink RX4 231 yX4_otherOf ∈ lw_tbl := mt_6 (List.mem_of_getElem? (i := 152) rfl)
theorem kl_RX4_234 : Cond.methodLink RX4 234 yX4_costOf ∈ lw_tbl := mt_6 (List.mem_of_getElem? (i := 155) rfl)
theorem kl_RX5_3 : Cond.methodLink RX5 3 Lib.objectInit ∈ lw_tbl := mt_2 (List.mem_of_getElem? (i := 39) rfl)
theorem kl_RX5_21 : Cond.methodLinkNest RX5 21 yX8_init RX11 ∈ lw_tbl := mt_2 (List.mem_of_getElem? (i := 43) rfl)
theorem kl_RX5_39 : Cond.methodLink RX5 39 yX5_poseAt ∈ lw_tbl := mt_4 (List.mem_of_getElem? (i := 76) rfl)
theorem kl_RX5_43 : Cond.methodLink RX5 43 yX3_panelAt ∈ lw_tbl := mt_4 (List.mem_of_getElem? (i := 80) rfl)
theorem kl_RX5_47 : Cond.methodLink RX5 47 yX8_layFlat ∈ lw_tbl := mt_4 (List.mem_of_getElem? (i := 81) rfl)
theorem kl_RX5_51 : Cond.methodLink RX5 51 yX8_measure ∈ lw_tbl := mt_4 (List.mem_of_getElem? (i := 85) rfl)
theorem kl_RX5_62 : Cond.methodLink RX5 62 yX8_hangOn ∈ lw_tbl := mt_4 (List.mem_of_getElem? (i := 106) rfl)
theorem kl_RX5_69 : Cond.methodLink RX5 69 yX8_isCutBy ∈ lw_tbl := mt_6 (List.mem_of_getElem? (i := 23) rfl)
theorem kl_RX5_73 : Cond.methodLink RX5 73 yX8_commonOn ∈ lw_tbl := mt_5 (List.mem_of_getElem? (i := 206) rfl)
theorem kl_RX5_77 : Cond.methodLink RX5 77 yJ9_max_7cf53 ∈ lw_tbl := mt_6 (List.mem_of_getElem? (i := 27) rfl)
theorem kl_RX5_83 : Cond.methodLink RX5 83 yX5_crossing ∈ lw_tbl := mt_6 (List.mem_of_getElem? (i := 19) rfl)
theorem kl_RX5_87 : Cond.methodLink RX5 87 yX8_lowOn ∈ lw_tbl := mt_5 (List.mem_of_getElem? (i := 201) rfl)
theorem kl_RX5_91 : Cond.methodLink RX5 91 yJ9_abs_0f7a4 ∈ lw_tbl := mt_5 (List.mem_of_getElem? (i := 205) rfl)
theorem kl_RX5_103 : Cond.methodLink RX5 103 yX5_doubled ∈ lw_tbl := mt_5 (List.mem_of_getElem? (i := 197) rfl)
theorem kl_RX5_106 : Cond.methodLink RX5 106 yX7_isFlap ∈ lw_tbl := mt_5 (List.mem_of_getElem? (i := 231) rfl)
theorem kl_RX5_110 : Cond.methodLink RX5 110 yJ9_abs_067f4 ∈ lw_tbl := mt_5 (List.mem_of_getElem? (i := 232) rfl)
theorem kl_RX5_115 : Cond.methodLink RX5 115 yX5_nextFold ∈ lw_tbl := mt_6 (List.mem_of_getElem? (i := 36) rfl)
theorem kl_RX5_119 : Cond.methodLink RX5 119 yX5_fold ∈ lw_tbl := mt_6 (List.mem_of_getElem? (i := 40) rfl)
theorem kl_RX5_123 : Cond.methodLink RX5 123 yX5_crossingPairs ∈ lw_tbl := mt_6 (List.mem_of_getElem? (i := 41) rfl)
theorem kl_RX6_3 : Cond.methodLink RX6 3 Lib.objectInit ∈ lw_tbl := mt_1 (List.mem_of_getElem? (i := 169) rfl)
theorem kl_RX6_32 : Cond.methodLink RX6 32 yX3_init ∈ lw_tbl := mt_1 (List.mem_of_getElem? (i := 173) rfl)
theorem kl_RX6_33 : Cond.methodLink RX6 33 yX3_become ∈ lw_tbl := mt_3 (List.mem_of_getElem? (i := 214) rfl)
theorem kl_RX6_37 : Cond.methodLink RX6 37 yX6_copy ∈ lw_tbl := mt_3 (List.mem_of_getElem? (i := 215) rfl)
theorem kl_RX7_3 : Cond.methodLink RX7 3 Lib.objectInit ∈ lw_tbl := mt_1 (List.mem_of_getElem? (i := 35) rfl)
theorem kl_RX8_1 : Cond.methodLink RX8 1 Lib.objectInit ∈ lw_tbl := mt_2 (List.mem_of_getElem? (i := 46) rfl)
theorem kl_RX8_66 : Cond.methodLink RX8 66 yX8_outward ∈ lw_tbl := mt_4 (List.mem_of_getElem? (i := 110) rfl)
theorem kl_RX8_70 : Cond.methodLink RX8 70 yX8_cornerAt ∈ lw_tbl := mt_4 (List.mem_of_getElem? (i := 89) rfl)
theorem kl_RX8_77 : Cond.methodLink RX8 77 yX8_part ∈ lw_tbl := mt_4 (List.mem_of_getElem? (i := 93) rfl)
theorem kl_RX8_83 : Cond.methodLink RX8 83 yJ9_min_7cf53 ∈ lw_tbl := mt_4 (List.mem_of_getElem? (i := 96) rfl)
theorem kl_RX8_88 : Cond.methodLink RX8 88 yJ9_max_7cf53 ∈ lw_tbl := mt_4 (List.mem_of_getElem? (i := 99) rfl)
theorem kl_RX8_97 : Cond.methodLink RX8 97 yJ9_abs_0f7a4 ∈ lw_tbl := mt_4 (List.mem_of_getElem? (i := 191) rfl)
theorem kl_RX8_100 : Cond.methodLink RX8 100 yX8_highOn ∈ lw_tbl := mt_5 (List.mem_of_getElem? (i := 210) rfl)
theorem kl_RX8_103 : Cond.methodLink RX8 103 yX8_lowOn ∈ lw_tbl := mt_5 (List.mem_of_getElem? (i := 214) rfl)
theorem kl_RX9_3 : Cond.methodLink RX9 3 Lib.objectInit ∈ lw_tbl := mt_1 (List.mem_of_getElem? (i := 197) rfl)
theorem kl_RX9_11 : Cond.methodLink RX9 11 yX3_init ∈ lw_tbl := mt_1 (List.mem_of_getElem? (i := 199) rfl)
theorem kl_RX9_42 : Cond.methodLink RX9 42 yX3_empty ∈ lw_tbl := mt_3 (List.mem_of_getElem? (i := 43) rfl)
theorem kl_RX9_45 : Cond.methodLink RX9 45 yX9_takeByte ∈ lw_tbl := mt_3 (List.mem_of_getElem? (i := 47) rfl)
theorem kl_RX9_49 : Cond.methodLink RX9 49 yX9_carryOut ∈ lw_tbl := mt_3 (List.mem_of_getElem? (i := 73) rfl)
theorem kl_RX9_53 : Cond.methodLink RX9 53 yX9_fail ∈ lw_tbl := mt_3 (List.mem_of_getElem? (i := 58) rfl)
theorem kl_RX9_57 : Cond.methodLink RX9 57 yX9_isDigit ∈ lw_tbl := mt_3 (List.mem_of_getElem? (i := 51) rfl)
theorem kl_RX9_61 : Cond.methodLink RX9 61 yX9_takeNumber ∈ lw_tbl := mt_3 (List.mem_of_getElem? (i := 54) rfl)
theorem kl_RX9_64 : Cond.methodLink RX9 64 yX9_endItem ∈ lw_tbl := mt_3 (List.mem_of_getElem? (i := 65) rfl)
theorem kl_RX9_68 : Cond.methodLink RX9 68 yX9_numbersOf ∈ lw_tbl := mt_3 (List.mem_of_getElem? (i := 62) rfl)
theorem kl_RX9_72 : Cond.methodLink RX9 72 yX9_beginItem ∈ lw_tbl := mt_3 (List.mem_of_getElem? (i := 69) rfl)
theorem kl_RX9_75 : Cond.methodLink RX9 75 yX3_sheetFault ∈ lw_tbl := mt_3 (List.mem_of_getElem? (i := 77) rfl)
theorem kl_RX9_79 : Cond.methodLink RX9 79 yX3_changeSheet ∈ lw_tbl := mt_3 (List.mem_of_getElem? (i := 85) rfl)
theorem kl_RX9_82 : Cond.methodLink RX9 82 yX3_baseFault ∈ lw_tbl := mt_3 (List.mem_of_getElem? (i := 89) rfl)
theorem kl_RX9_86 : Cond.methodLink RX9 86 yX3_startBase ∈ lw_tbl := mt_3 (List.mem_of_getElem? (i := 99) rfl)
theorem kl_RX9_89 : Cond.methodLink RX9 89 yX9_hangPanel ∈ lw_tbl := mt_3 (List.mem_of_getElem? (i := 107) rfl)
theorem kl_RX9_92 : Cond.methodLink RX9 92 yX9_glue ∈ lw_tbl := mt_3 (List.mem_of_getElem? (i := 145) rfl)
theorem kl_RX9_95 : Cond.methodLink RX9 95 yX3_imageFault ∈ lw_tbl := mt_3 (List.mem_of_getElem? (i := 162) rfl)
theorem kl_RX9_99 : Cond.methodLink RX9 99 yX3_changeImage ∈ lw_tbl := mt_3 (List.mem_of_getElem? (i := 166) rfl)
theorem kl_RX9_102 : Cond.methodLink RX9 102 yX9_printImage ∈ lw_tbl := mt_3 (List.mem_of_getElem? (i := 174) rfl)
theorem kl_RX9_105 : Cond.methodLink RX9 105 yX3_hangFault ∈ lw_tbl := mt_3 (List.mem_of_getElem? (i := 111) rfl)
theorem kl_RX9_109 : Cond.methodLink RX9 109 yX3_hang ∈ lw_tbl := mt_3 (List.mem_of_getElem? (i := 141) rfl)
theorem kl_RX9_112 : Cond.methodLink RX9 112 yX3_has ∈ lw_tbl := mt_3 (List.mem_of_getElem? (i := 149) rfl)
theorem kl_RX9_115 : Cond.methodLink RX9 115 yX3_flapFault ∈ lw_tbl := mt_3 (List.mem_of_getElem? (i := 150) rfl)
theorem kl_RX9_118 : Cond.methodLink RX9 118 yX3_changeTarget ∈ lw_tbl := mt_3 (List.mem_of_getElem? (i := 158) rfl)
theorem kl_RX9_121 : Cond.methodLink RX9 121 yX3_printFault ∈ lw_tbl := mt_3 (List.mem_of_getElem? (i := 178) rfl)
theorem kl_RX9_125 : Cond.methodLink RX9 125 yX3_print ∈ lw_tbl := mt_3 (List.mem_of_getElem? (i := 185) rfl)
theorem kl_RX10_3 : Cond.methodLink RX10 3 Lib.objectInit ∈ lw_tbl := mt_2 (List.mem_of_getElem? (i := 33) rfl)
theorem kl_RX10_17 : Cond.methodLink RX10 17 yX5_init ∈ lw_tbl := mt_2 (List.mem_of_getElem? (i := 36) rfl)
theorem kl_RX10_43 : Cond.methodLinkNest RX10 43 yX2_init RX11 ∈ lw_tbl := mt_2 (List.mem_of_getElem? (i := 115) rfl)
theorem kl_RX10_51 : Cond.methodLink RX10 51 yX10_joinSide ∈ lw_tbl := mt_4 (List.mem_of_getElem? (i := 118) rfl)
theorem kl_RX10_55 : Cond.methodLink RX10 55 yX5_poseAt ∈ lw_tbl := mt_4 (List.mem_of_getElem? (i := 122) rfl)
theorem kl_RX10_67 : Cond.methodLink RX10 67 yJ9_abs_0f7a4 ∈ lw_tbl := mt_4 (List.mem_of_getElem? (i := 123) rfl)
theorem kl_RX10_76 : Cond.methodLink RX10 76 yJ9_max_7cf53 ∈ lw_tbl := mt_4 (List.mem_of_getElem? (i := 126) rfl)
theorem kl_RX10_86 : Cond.methodLink RX10 86 yJ9_min_7cf53 ∈ lw_tbl := mt_4 (List.mem_of_getElem? (i := 127) rfl)
theorem kl_RX10_89 : Cond.methodLink RX10 89 yX10_has ∈ lw_tbl := mt_4 (List.mem_of_getElem? (i := 140) rfl)
theorem kl_RX10_93 : Cond.methodLink RX10 93 yX10_panelP ∈ lw_tbl := mt_5 (List.mem_of_getElem? (i := 171) rfl)
theorem kl_RX10_96 : Cond.methodLink RX10 96 yX10_sideOfP ∈ lw_tbl := mt_5 (List.mem_of_getElem? (i := 172) rfl)
theorem kl_RX10_99 : Cond.methodLink RX10 99 yX10_panelQ ∈ lw_tbl := mt_5 (List.mem_of_getElem? (i := 173) rfl)
theorem kl_RX10_102 : Cond.methodLink RX10 102 yX10_sideOfQ ∈ lw_tbl := mt_5 (List.mem_of_getElem? (i := 174) rfl)
theorem kl_RX10_105 : Cond.methodLink RX10 105 yX10_isFold ∈ lw_tbl := mt_5 (List.mem_of_getElem? (i := 175) rfl)
theorem kl_RX10_109 : Cond.methodLink RX10 109 yX3_panelAt ∈ lw_tbl := mt_5 (List.mem_of_getElem? (i := 179) rfl)
theorem kl_RX10_115 : Cond.methodLink RX10 115 yX7_hangsOn ∈ lw_tbl := mt_5 (List.mem_of_getElem? (i := 180) rfl)
theorem kl_RX10_121 : Cond.methodLink RX10 121 yX7_nearSide ∈ lw_tbl := mt_5 (List.mem_of_getElem? (i := 184) rfl)
theorem kl_RX10_125 : Cond.methodLink RX10 125 yX2_empty ∈ lw_tbl := mt_5 (List.mem_of_getElem? (i := 151) rfl)
theorem kl_RX10_128 : Cond.methodLink RX10 128 yX2_add ∈ lw_tbl := mt_5 (List.mem_of_getElem? (i := 152) rfl)
theorem kl_RX10_132 : Cond.methodLink RX10 132 yX2_uncovered ∈ lw_tbl := mt_5 (List.mem_of_getElem? (i := 153) rfl)
theorem kl_RL_9 : Cond.methodLink RL 9 yX11_init ∈ lw_tbl := mt_1 (List.mem_of_getElem? (i := 17) rfl)
theorem kl_RL_12 : Cond.methodLink RL 12 yX12_init ∈ lw_tbl := mt_6 (List.mem_of_getElem? (i := 201) rfl)
theorem kl_RL_13 : Cond.methodLink RL 13 yX11_type ∈ lw_tbl := mt_3 (List.mem_of_getElem? (i := 27) rfl)
theorem kl_RL_17 : Cond.methodLink RL 17 yX12_type ∈ lw_tbl := mt_7 (List.mem_of_getElem? (i := 208) rfl)
theorem kl_RL_18 : Cond.methodLink RL 18 yX11_clearText ∈ lw_tbl := mt_3 (List.mem_of_getElem? (i := 31) rfl)
theorem kl_RL_22 : Cond.methodLink RL 22 yX12_clearText ∈ lw_tbl := mt_7 (List.mem_of_getElem? (i := 212) rfl)
theorem kl_RL_23 : Cond.methodLink RL 23 yX11_load ∈ lw_tbl := mt_3 (List.mem_of_getElem? (i := 35) rfl)
theorem kl_RL_26 : Cond.methodLink RL 26 yX12_load ∈ lw_tbl := mt_7 (List.mem_of_getElem? (i := 216) rfl)
theorem kl_RL_27 : Cond.methodLink RL 27 yX11_faultKind ∈ lw_tbl := mt_3 (List.mem_of_getElem? (i := 201) rfl)
theorem kl_RL_30 : Cond.methodLink RL 30 yX12_faultKind ∈ lw_tbl := mt_8 (List.mem_of_getElem? (i := 15) rfl)
theorem kl_RL_31 : Cond.methodLink RL 31 yX11_setSheet ∈ lw_tbl := mt_3 (List.mem_of_getElem? (i := 205) rfl)
theorem kl_RL_35 : Cond.methodLink RL 35 yX12_setSheet ∈ lw_tbl := mt_7 (List.mem_of_getElem? (i := 87) rfl)
theorem kl_RL_36 : Cond.methodLink RL 36 yX11_setBase ∈ lw_tbl := mt_3 (List.mem_of_getElem? (i := 219) rfl)
theorem kl_RL_40 : Cond.methodLink RL 40 yX12_setBase ∈ lw_tbl := mt_7 (List.mem_of_getElem? (i := 128) rfl)
theorem kl_RL_41 : Cond.methodLink RL 41 yX11_addPanel ∈ lw_tbl := mt_3 (List.mem_of_getElem? (i := 225) rfl)
theorem kl_RL_45 : Cond.methodLink RL 45 yX12_addPanel ∈ lw_tbl := mt_7 (List.mem_of_getElem? (i := 144) rfl)
theorem kl_RL_46 : Cond.methodLink RL 46 yX11_removeLast ∈ lw_tbl := mt_3 (List.mem_of_getElem? (i := 231) rfl)
theorem kl_RL_49 : Cond.methodLink RL 49 yX12_removeLast ∈ lw_tbl := mt_7 (List.mem_of_getElem? (i := 156) rfl)
theorem kl_RL_50 : Cond.methodLink RL 50 yX11_setAngle ∈ lw_tbl := mt_4 (List.mem_of_getElem? (i := 3) rfl)
theorem kl_RL_53 : Cond.methodLink RL 53 yX12_setAngle ∈ lw_tbl := mt_7 (List.mem_of_getElem? (i := 160) rfl)
theorem kl_RL_54 : Cond.methodLink RL 54 yX11_setSize ∈ lw_tbl := mt_4 (List.mem_of_getElem? (i := 13) rfl)
theorem kl_RL_58 : Cond.methodLink RL 58 yX12_setSize ∈ lw_tbl := mt_7 (List.mem_of_getElem? (i := 168) rfl)
theorem kl_RL_59 : Cond.methodLink RL 59 yX11_setFlap ∈ lw_tbl := mt_4 (List.mem_of_getElem? (i := 34) rfl)
theorem kl_RL_62 : Cond.methodLink RL 62 yX12_setFlap ∈ lw_tbl := mt_7 (List.mem_of_getElem? (i := 172) rfl)
theorem kl_RL_63 : Cond.methodLink RL 63 yX11_defineImage ∈ lw_tbl := mt_4 (List.mem_of_getElem? (i := 40) rfl)
theorem kl_RL_66 : Cond.methodLink RL 66 yX12_defineImage ∈ lw_tbl := mt_7 (List.mem_of_getElem? (i := 180) rfl)
theorem kl_RL_67 : Cond.methodLink RL 67 yX11_place ∈ lw_tbl := mt_4 (List.mem_of_getElem? (i := 46) rfl)
theorem kl_RL_71 : Cond.methodLink RL 71 yX12_place ∈ lw_tbl := mt_7 (List.mem_of_getElem? (i := 188) rfl)
theorem kl_RL_72 : Cond.methodLink RL 72 yX11_clearImage ∈ lw_tbl := mt_4 (List.mem_of_getElem? (i := 52) rfl)
theorem kl_RL_75 : Cond.methodLink RL 75 yX12_clearImage ∈ lw_tbl := mt_7 (List.mem_of_getElem? (i := 196) rfl)
theorem kl_RL_76 : Cond.methodLink RL 76 yX11_continueImage ∈ lw_tbl := mt_4 (List.mem_of_getElem? (i := 64) rfl)
theorem kl_RL_80 : Cond.methodLink RL 80 yX12_continueImage ∈ lw_tbl := mt_8 (List.mem_of_getElem? (i := 19) rfl)
theorem kl_RL_81 : Cond.methodLink RL 81 yX11_spreadImage ∈ lw_tbl := mt_4 (List.mem_of_getElem? (i := 237) rfl)
theorem kl_RL_84 : Cond.methodLink RL 84 yX12_spreadImage ∈ lw_tbl := mt_8 (List.mem_of_getElem? (i := 117) rfl)
theorem kl_RL_85 : Cond.methodLink RL 85 yX11_setLimit ∈ lw_tbl := mt_5 (List.mem_of_getElem? (i := 16) rfl)
theorem kl_RL_88 : Cond.methodLink RL 88 yX12_setLimit ∈ lw_tbl := mt_7 (List.mem_of_getElem? (i := 200) rfl)
theorem kl_RL_89 : Cond.methodLink RL 89 yX11_setWeight ∈ lw_tbl := mt_5 (List.mem_of_getElem? (i := 20) rfl)
theorem kl_RL_92 : Cond.methodLink RL 92 yX12_setWeight ∈ lw_tbl := mt_7 (List.mem_of_getElem? (i := 204) rfl)
theorem kl_RL_93 : Cond.methodLink RL 93 yX11_undo ∈ lw_tbl := mt_5 (List.mem_of_getElem? (i := 24) rfl)
theorem kl_RL_96 : Cond.methodLink RL 96 yX12_undo ∈ lw_tbl := mt_7 (List.mem_of_getElem? (i := 60) rfl)
theorem kl_RL_97 : Cond.methodLink RL 97 yX11_save ∈ lw_tbl := mt_5 (List.mem_of_getElem? (i := 32) rfl)
theorem kl_RL_100 : Cond.methodLink RL 100 yX12_save ∈ lw_tbl := mt_7 (List.mem_of_getElem? (i := 64) rfl)
theorem kl_RL_101 : Cond.methodLink RL 101 yX11_restore ∈ lw_tbl := mt_5 (List.mem_of_getElem? (i := 36) rfl)
theorem kl_RL_104 : Cond.methodLink RL 104 yX12_restore ∈ lw_tbl := mt_7 (List.mem_of_getElem? (i := 75) rfl)
theorem kl_RL_105 : Cond.methodLink RL 105 yX11_flat ∈ lw_tbl := mt_5 (List.mem_of_getElem? (i := 40) rfl)
theorem kl_RL_108 : Cond.methodLink RL 108 yX12_flat ∈ lw_tbl := mt_8 (List.mem_of_getElem? (i := 222) rfl)
theorem kl_RL_109 : Cond.methodLink RL 109 yX11_cutLength ∈ lw_tbl := mt_5 (List.mem_of_getElem? (i := 45) rfl)
theorem kl_RL_112 : Cond.methodLink RL 112 yX12_cutLength ∈ lw_tbl := mt_8 (List.mem_of_getElem? (i := 226) rfl)
theorem kl_RL_113 : Cond.methodLink RL 113 yX11_creaseLength ∈ lw_tbl := mt_5 (List.mem_of_getElem? (i := 83) rfl)
theorem kl_RL_116 : Cond.methodLink RL 116 yX12_creaseLength ∈ lw_tbl := mt_9 (List.mem_of_getElem? (i := 10) rfl)
theorem kl_RL_117 : Cond.methodLink RL 117 yX11_pitch ∈ lw_tbl := mt_5 (List.mem_of_getElem? (i := 91) rfl)
theorem kl_RL_121 : Cond.methodLink RL 121 yX12_pitch ∈ lw_tbl := mt_9 (List.mem_of_getElem? (i := 14) rfl)
theorem kl_RL_122 : Cond.methodLink RL 122 yX11_rowCount ∈ lw_tbl := mt_5 (List.mem_of_getElem? (i := 124) rfl)
theorem kl_RL_125 : Cond.methodLink RL 125 yX12_rowCount ∈ lw_tbl := mt_9 (List.mem_of_getElem? (i := 41) rfl)
theorem kl_RL_126 : Cond.methodLink RL 126 yX11_corner ∈ lw_tbl := mt_5 (List.mem_of_getElem? (i := 133) rfl)
theorem kl_RL_129 : Cond.methodLink RL 129 yX12_corner ∈ lw_tbl := mt_9 (List.mem_of_getElem? (i := 45) rfl)
theorem kl_RL_130 : Cond.methodLink RL 130 yX11_facing ∈ lw_tbl := mt_5 (List.mem_of_getElem? (i := 139) rfl)
theorem kl_RL_133 : Cond.methodLink RL 133 yX12_facing ∈ lw_tbl := mt_9 (List.mem_of_getElem? (i := 49) rfl)
theorem kl_RL_134 : Cond.methodLink RL 134 yX11_openLength ∈ lw_tbl := mt_5 (List.mem_of_getElem? (i := 143) rfl)
theorem kl_RL_137 : Cond.methodLink RL 137 yX12_openLength ∈ lw_tbl := mt_9 (List.mem_of_getElem? (i := 53) rfl)
theorem kl_RL_138 : Cond.methodLink RL 138 yX11_seamCount ∈ lw_tbl := mt_5 (List.mem_of_getElem? (i := 154) rfl)
theorem kl_RL_141 : Cond.methodLink RL 141 yX12_seamCount ∈ lw_tbl := mt_9 (List.mem_of_getElem? (i := 57) rfl)
theorem kl_RL_142 : Cond.methodLink RL 142 yX11_seam ∈ lw_tbl := mt_5 (List.mem_of_getElem? (i := 158) rfl)
theorem kl_RL_145 : Cond.methodLink RL 145 yX12_seam ∈ lw_tbl := mt_9 (List.mem_of_getElem? (i := 61) rfl)
theorem kl_RL_146 : Cond.methodLink RL 146 yX11_coverage ∈ lw_tbl := mt_5 (List.mem_of_getElem? (i := 188) rfl)
theorem kl_RL_149 : Cond.methodLink RL 149 yX12_coverage ∈ lw_tbl := mt_9 (List.mem_of_getElem? (i := 65) rfl)
theorem kl_RL_150 : Cond.methodLink RL 150 yX11_volume ∈ lw_tbl := mt_5 (List.mem_of_getElem? (i := 215) rfl)
theorem kl_RL_154 : Cond.methodLink RL 154 yX12_volume ∈ lw_tbl := mt_9 (List.mem_of_getElem? (i := 69) rfl)
theorem kl_RL_155 : Cond.methodLink RL 155 yX11_leastTolerance ∈ lw_tbl := mt_5 (List.mem_of_getElem? (i := 236) rfl)
theorem kl_RL_158 : Cond.methodLink RL 158 yX12_leastTolerance ∈ lw_tbl := mt_9 (List.mem_of_getElem? (i := 79) rfl)
theorem kl_RL_159 : Cond.methodLink RL 159 yX11_crossings ∈ lw_tbl := mt_6 (List.mem_of_getElem? (i := 11) rfl)
theorem kl_RL_162 : Cond.methodLink RL 162 yX12_crossings ∈ lw_tbl := mt_9 (List.mem_of_getElem? (i := 83) rfl)
theorem kl_RL_163 : Cond.methodLink RL 163 yX11_foldStep ∈ lw_tbl := mt_6 (List.mem_of_getElem? (i := 28) rfl)
theorem kl_RL_166 : Cond.methodLink RL 166 yX12_foldStep ∈ lw_tbl := mt_9 (List.mem_of_getElem? (i := 91) rfl)
theorem kl_RL_167 : Cond.methodLink RL 167 yX11_imageAt ∈ lw_tbl := mt_6 (List.mem_of_getElem? (i := 46) rfl)
theorem kl_RL_170 : Cond.methodLink RL 170 yX12_imageAt ∈ lw_tbl := mt_9 (List.mem_of_getElem? (i := 98) rfl)
theorem kl_RL_171 : Cond.methodLink RL 171 yX11_reach ∈ lw_tbl := mt_6 (List.mem_of_getElem? (i := 53) rfl)
theorem kl_RL_174 : Cond.methodLink RL 174 yX12_reach ∈ lw_tbl := mt_9 (List.mem_of_getElem? (i := 102) rfl)
theorem kl_RL_175 : Cond.methodLink RL 175 yX11_findingCount ∈ lw_tbl := mt_6 (List.mem_of_getElem? (i := 58) rfl)
theorem kl_RL_178 : Cond.methodLink RL 178 yX12_findingCount ∈ lw_tbl := mt_8 (List.mem_of_getElem? (i := 129) rfl)
theorem kl_RL_179 : Cond.methodLink RL 179 yX11_finding ∈ lw_tbl := mt_6 (List.mem_of_getElem? (i := 131) rfl)
theorem kl_RL_182 : Cond.methodLink RL 182 yX12_finding ∈ lw_tbl := mt_8 (List.mem_of_getElem? (i := 189) rfl)
theorem kl_RL_183 : Cond.methodLink RL 183 yX11_totalCost ∈ lw_tbl := mt_6 (List.mem_of_getElem? (i := 158) rfl)
theorem kl_RL_186 : Cond.methodLink RL 186 yX12_totalCost ∈ lw_tbl := mt_8 (List.mem_of_getElem? (i := 201) rfl)
theorem kl_RL_187 : Cond.methodLink RL 187 yX11_panelCost ∈ lw_tbl := mt_6 (List.mem_of_getElem? (i := 162) rfl)
theorem kl_RL_191 : Cond.methodLink RL 191 yX12_panelCost ∈ lw_tbl := mt_8 (List.mem_of_getElem? (i := 209) rfl)
theorem kl_RL_192 : Cond.methodLink RL 192 yX11_bestDepth ∈ lw_tbl := mt_6 (List.mem_of_getElem? (i := 171) rfl)
theorem kl_RL_195 : Cond.methodLink RL 195 yX12_bestDepth ∈ lw_tbl := mt_8 (List.mem_of_getElem? (i := 214) rfl)
theorem kl_RL_196 : Cond.methodLink RL 196 yX11_bestAngle ∈ lw_tbl := mt_6 (List.mem_of_getElem? (i := 178) rfl)
theorem kl_RL_199 : Cond.methodLink RL 199 yX12_bestAngle ∈ lw_tbl := mt_8 (List.mem_of_getElem? (i := 218) rfl)
theorem kl_RL_200 : Cond.methodLink RL 200 yX11_count ∈ lw_tbl := mt_6 (List.mem_of_getElem? (i := 182) rfl)
theorem kl_RL_203 : Cond.methodLink RL 203 yX12_count ∈ lw_tbl := mt_9 (List.mem_of_getElem? (i := 106) rfl)
theorem kl_RX12_1 : Cond.methodLink RX12 1 Lib.objectInit ∈ lw_tbl := mt_6 (List.mem_of_getElem? (i := 204) rfl)
theorem kl_RX12_80 : Cond.methodLink RX12 80 yX12_clearDesign ∈ lw_tbl := mt_6 (List.mem_of_getElem? (i := 205) rfl)
theorem kl_RX12_83 : Cond.methodLink RX12 83 yX12_many ∈ lw_tbl := mt_7 (List.mem_of_getElem? (i := 71) rfl)
theorem kl_RX12_87 : Cond.methodLink RX12 87 yX12_in ∈ lw_tbl := mt_7 (List.mem_of_getElem? (i := 68) rfl)
theorem kl_RX12_91 : Cond.methodLink RX12 91 yX12_of ∈ lw_tbl := mt_7 (List.mem_of_getElem? (i := 107) rfl)
theorem kl_RX12_103 : Cond.methodLink RX12 103 yX12_begins ∈ lw_tbl := mt_7 (List.mem_of_getElem? (i := 79) rfl)
theorem kl_RX12_106 : Cond.methodLink RX12 106 yX12_ends ∈ lw_tbl := mt_7 (List.mem_of_getElem? (i := 83) rfl)
theorem kl_RX12_110 : Cond.methodLink RX12 110 yX12_least ∈ lw_tbl := mt_7 (List.mem_of_getElem? (i := 122) rfl)
theorem kl_RX12_113 : Cond.methodLink RX12 113 yX12_most ∈ lw_tbl := mt_7 (List.mem_of_getElem? (i := 125) rfl)
theorem kl_RX12_116 : Cond.methodLink RX12 116 yX12_common ∈ lw_tbl := mt_7 (List.mem_of_getElem? (i := 119) rfl)
theorem kl_RX12_120 : Cond.methodLink RX12 120 yX12_layFlat ∈ lw_tbl := mt_7 (List.mem_of_getElem? (i := 103) rfl)
theorem kl_RX12_123 : Cond.methodLink RX12 123 yX12_sideLength ∈ lw_tbl := mt_7 (List.mem_of_getElem? (i := 111) rfl)
theorem kl_RX12_126 : Cond.methodLink RX12 126 yX12_overlap ∈ lw_tbl := mt_7 (List.mem_of_getElem? (i := 115) rfl)
theorem kl_RX12_130 : Cond.methodLink RX12 130 yX12_refuse ∈ lw_tbl := mt_7 (List.mem_of_getElem? (i := 95) rfl)
theorem kl_RX12_133 : Cond.methodLink RX12 133 yX12_isValid ∈ lw_tbl := mt_7 (List.mem_of_getElem? (i := 99) rfl)
theorem kl_RX12_137 : Cond.methodLink RX12 137 yX12_put ∈ lw_tbl := mt_7 (List.mem_of_getElem? (i := 140) rfl)
theorem kl_RX12_141 : Cond.methodLink RX12 141 yX12_newPanel ∈ lw_tbl := mt_7 (List.mem_of_getElem? (i := 136) rfl)
theorem kl_RX12_145 : Cond.methodLink RX12 145 yX12_isPanel ∈ lw_tbl := mt_7 (List.mem_of_getElem? (i := 152) rfl)
theorem kl_RX12_149 : Cond.methodLink RX12 149 yX12_isHung ∈ lw_tbl := mt_7 (List.mem_of_getElem? (i := 164) rfl)
theorem kl_RX12_152 : Cond.methodLink RX12 152 yX12_doSheet ∈ lw_tbl := mt_7 (List.mem_of_getElem? (i := 91) rfl)
theorem kl_RX12_155 : Cond.methodLink RX12 155 yX12_doBase ∈ lw_tbl := mt_7 (List.mem_of_getElem? (i := 132) rfl)
theorem kl_RX12_158 : Cond.methodLink RX12 158 yX12_doPanel ∈ lw_tbl := mt_7 (List.mem_of_getElem? (i := 148) rfl)
theorem kl_RX12_162 : Cond.methodLink RX12 162 yX12_doFlap ∈ lw_tbl := mt_7 (List.mem_of_getElem? (i := 176) rfl)
theorem kl_RX12_165 : Cond.methodLink RX12 165 yX12_doImage ∈ lw_tbl := mt_7 (List.mem_of_getElem? (i := 184) rfl)
theorem kl_RX12_169 : Cond.methodLink RX12 169 yX12_doPlace ∈ lw_tbl := mt_7 (List.mem_of_getElem? (i := 192) rfl)
theorem kl_RX12_176 : Cond.methodLink RX12 176 yX12_here ∈ lw_tbl := mt_7 (List.mem_of_getElem? (i := 224) rfl)
theorem kl_RX12_179 : Cond.methodLink RX12 179 yX12_isDigit ∈ lw_tbl := mt_7 (List.mem_of_getElem? (i := 235) rfl)
theorem kl_RX12_188 : Cond.methodLink RX12 188 yX12_numbersOf ∈ lw_tbl := mt_7 (List.mem_of_getElem? (i := 232) rfl)
theorem kl_RX12_191 : Cond.methodLink RX12 191 yX12_numberEnd ∈ lw_tbl := mt_7 (List.mem_of_getElem? (i := 239) rfl)
theorem kl_RX12_194 : Cond.methodLink RX12 194 yX12_faulty ∈ lw_tbl := mt_8 (List.mem_of_getElem? (i := 3) rfl)
theorem kl_RX12_197 : Cond.methodLink RX12 197 yX12_skips ∈ lw_tbl := mt_7 (List.mem_of_getElem? (i := 220) rfl)
theorem kl_RX12_200 : Cond.methodLink RX12 200 yX12_numberAt ∈ lw_tbl := mt_8 (List.mem_of_getElem? (i := 7) rfl)
theorem kl_RX12_203 : Cond.methodLink RX12 203 yX12_carryOut ∈ lw_tbl := mt_8 (List.mem_of_getElem? (i := 11) rfl)
theorem kl_RX12_206 : Cond.methodLink RX12 206 yX12_readItem ∈ lw_tbl := mt_7 (List.mem_of_getElem? (i := 228) rfl)
theorem kl_RX12_209 : Cond.methodLink RX12 209 yX12_layBase ∈ lw_tbl := mt_8 (List.mem_of_getElem? (i := 35) rfl)
theorem kl_RX12_212 : Cond.methodLink RX12 212 yX12_layHung ∈ lw_tbl := mt_8 (List.mem_of_getElem? (i := 39) rfl)
theorem kl_RX12_216 : Cond.methodLink RX12 216 yX12_cuts ∈ lw_tbl := mt_8 (List.mem_of_getElem? (i := 181) rfl)
theorem kl_RX12_219 : Cond.methodLink RX12 219 yX12_shared ∈ lw_tbl := mt_8 (List.mem_of_getElem? (i := 173) rfl)
theorem kl_RX12_222 : Cond.methodLink RX12 222 yX12_amount ∈ lw_tbl := mt_8 (List.mem_of_getElem? (i := 65) rfl)
theorem kl_RX12_225 : Cond.methodLink RX12 225 yX12_firstCorner ∈ lw_tbl := mt_8 (List.mem_of_getElem? (i := 55) rfl)
theorem kl_RX12_228 : Cond.methodLink RX12 228 yX12_cornerOf ∈ lw_tbl := mt_8 (List.mem_of_getElem? (i := 58) rfl)
theorem kl_RX12_231 : Cond.methodLink RX12 231 yX12_lastCorner ∈ lw_tbl := mt_8 (List.mem_of_getElem? (i := 62) rfl)
theorem kl_RX12_234 : Cond.methodLink RX12 234 yX12_sideAxis ∈ lw_tbl := mt_8 (List.mem_of_getElem? (i := 47) rfl)
theorem kl_RX12_237 : Cond.methodLink RX12 237 yX12_sideFrom ∈ lw_tbl := mt_8 (List.mem_of_getElem? (i := 51) rfl)
theorem kl_RX12_240 : Cond.methodLink RX12 240 yX12_sideTo ∈ lw_tbl := mt_8 (List.mem_of_getElem? (i := 68) rfl)
theorem kl_RX12_246 : Cond.methodLink RX12 246 yX12_fold ∈ lw_tbl := mt_8 (List.mem_of_getElem? (i := 31) rfl)
theorem kl_RX12_249 : Cond.methodLink RX12 249 yX12_meet ∈ lw_tbl := mt_8 (List.mem_of_getElem? (i := 43) rfl)
theorem kl_RX12_253 : Cond.methodLink RX12 253 yX12_doubled ∈ lw_tbl := mt_8 (List.mem_of_getElem? (i := 169) rfl)
theorem kl_RX12_256 : Cond.methodLink RX12 256 yX12_imageSize ∈ lw_tbl := mt_8 (List.mem_of_getElem? (i := 88) rfl)
theorem kl_RX12_260 : Cond.methodLink RX12 260 yX12_turnedSize ∈ lw_tbl := mt_8 (List.mem_of_getElem? (i := 84) rfl)
theorem kl_RX12_263 : Cond.methodLink RX12 263 yX12_shows ∈ lw_tbl := mt_8 (List.mem_of_getElem? (i := 80) rfl)
theorem kl_RX12_266 : Cond.methodLink RX12 266 yX12_inImage ∈ lw_tbl := mt_8 (List.mem_of_getElem? (i := 104) rfl)
theorem kl_RX12_270 : Cond.methodLink RX12 270 yX12_outward ∈ lw_tbl := mt_8 (List.mem_of_getElem? (i := 111) rfl)
theorem kl_RX12_273 : Cond.methodLink RX12 273 yX12_imageOn ∈ lw_tbl := mt_8 (List.mem_of_getElem? (i := 100) rfl)
theorem kl_RX12_277 : Cond.methodLink RX12 277 yX12_along ∈ lw_tbl := mt_8 (List.mem_of_getElem? (i := 96) rfl)
theorem kl_RX12_281 : Cond.methodLink RX12 281 yX12_reachOf ∈ lw_tbl := mt_8 (List.mem_of_getElem? (i := 76) rfl)
theorem kl_RX12_284 : Cond.methodLink RX12 284 yX12_atEnd ∈ lw_tbl := mt_8 (List.mem_of_getElem? (i := 92) rfl)
theorem kl_RX12_287 : Cond.methodLink RX12 287 yX12_step ∈ lw_tbl := mt_8 (List.mem_of_getElem? (i := 107) rfl)
theorem kl_RX12_290 : Cond.methodLink RX12 290 yX12_onTurned ∈ lw_tbl := mt_8 (List.mem_of_getElem? (i := 114) rfl)
theorem kl_RX12_293 : Cond.methodLink RX12 293 yX12_limitOf ∈ lw_tbl := mt_8 (List.mem_of_getElem? (i := 23) rfl)
theorem kl_RX12_296 : Cond.methodLink RX12 296 yX12_findSeams ∈ lw_tbl := mt_8 (List.mem_of_getElem? (i := 27) rfl)
theorem kl_RX12_299 : Cond.methodLink RX12 299 yX12_continueOver ∈ lw_tbl := mt_8 (List.mem_of_getElem? (i := 72) rfl)
theorem kl_RX12_302 : Cond.methodLink RX12 302 yX12_isFlap ∈ lw_tbl := mt_8 (List.mem_of_getElem? (i := 125) rfl)
theorem kl_RX12_305 : Cond.methodLink RX12 305 yX12_spreads ∈ lw_tbl := mt_8 (List.mem_of_getElem? (i := 121) rfl)
theorem kl_RX12_311 : Cond.methodLink RX12 311 yX12_stripOf ∈ lw_tbl := mt_8 (List.mem_of_getElem? (i := 157) rfl)
theorem kl_RX12_314 : Cond.methodLink RX12 314 yX12_finds ∈ lw_tbl := mt_8 (List.mem_of_getElem? (i := 145) rfl)
theorem kl_RX12_317 : Cond.methodLink RX12 317 yX12_openOf ∈ lw_tbl := mt_8 (List.mem_of_getElem? (i := 141) rfl)
theorem kl_RX12_320 : Cond.methodLink RX12 320 yX12_isFolded ∈ lw_tbl := mt_8 (List.mem_of_getElem? (i := 149) rfl)
theorem kl_RX12_323 : Cond.methodLink RX12 323 yX12_findIntrusions ∈ lw_tbl := mt_8 (List.mem_of_getElem? (i := 153) rfl)
theorem kl_RX12_326 : Cond.methodLink RX12 326 yX12_findSides ∈ lw_tbl := mt_8 (List.mem_of_getElem? (i := 137) rfl)
theorem kl_RX12_329 : Cond.methodLink RX12 329 yX12_findInk ∈ lw_tbl := mt_8 (List.mem_of_getElem? (i := 161) rfl)
theorem kl_RX12_332 : Cond.methodLink RX12 332 yX12_covered ∈ lw_tbl := mt_8 (List.mem_of_getElem? (i := 165) rfl)
theorem kl_RX12_335 : Cond.methodLink RX12 335 yX12_crossing ∈ lw_tbl := mt_8 (List.mem_of_getElem? (i := 177) rfl)
theorem kl_RX12_338 : Cond.methodLink RX12 338 yX12_mismatch ∈ lw_tbl := mt_8 (List.mem_of_getElem? (i := 185) rfl)
theorem kl_RX12_341 : Cond.methodLink RX12 341 yX12_findAll ∈ lw_tbl := mt_8 (List.mem_of_getElem? (i := 133) rfl)
theorem kl_RX12_344 : Cond.methodLink RX12 344 yX12_isAhead ∈ lw_tbl := mt_8 (List.mem_of_getElem? (i := 197) rfl)
theorem kl_RX12_347 : Cond.methodLink RX12 347 yX12_placed ∈ lw_tbl := mt_8 (List.mem_of_getElem? (i := 193) rfl)
theorem kl_RX12_350 : Cond.methodLink RX12 350 yX12_costs ∈ lw_tbl := mt_8 (List.mem_of_getElem? (i := 205) rfl)
theorem kl_RX12_356 : Cond.methodLink RX12 356 yX12_sideY ∈ lw_tbl := mt_8 (List.mem_of_getElem? (i := 234) rfl)
theorem kl_RX12_359 : Cond.methodLink RX12 359 yX12_sideX ∈ lw_tbl := mt_8 (List.mem_of_getElem? (i := 230) rfl)
theorem kl_RX12_362 : Cond.methodLink RX12 362 yX12_isOn ∈ lw_tbl := mt_9 (List.mem_of_getElem? (i := 2) rfl)
theorem kl_RX12_366 : Cond.methodLink RX12 366 yX12_isFold ∈ lw_tbl := mt_8 (List.mem_of_getElem? (i := 238) rfl)
theorem kl_RX12_370 : Cond.methodLink RX12 370 yX12_isCounted ∈ lw_tbl := mt_9 (List.mem_of_getElem? (i := 6) rfl)
theorem kl_RX12_373 : Cond.methodLink RX12 373 yX12_apart ∈ lw_tbl := mt_9 (List.mem_of_getElem? (i := 38) rfl)
theorem kl_RX12_376 : Cond.methodLink RX12 376 yX12_leastOf ∈ lw_tbl := mt_9 (List.mem_of_getElem? (i := 26) rfl)
theorem kl_RX12_379 : Cond.methodLink RX12 379 yX12_greatestOf ∈ lw_tbl := mt_9 (List.mem_of_getElem? (i := 30) rfl)
theorem kl_RX12_382 : Cond.methodLink RX12 382 yX12_isNear ∈ lw_tbl := mt_9 (List.mem_of_getElem? (i := 34) rfl)
theorem kl_RX12_386 : Cond.methodLink RX12 386 yX12_isFree ∈ lw_tbl := mt_9 (List.mem_of_getElem? (i := 22) rfl)
theorem kl_RX12_390 : Cond.methodLink RX12 390 yX12_pitchOf ∈ lw_tbl := mt_9 (List.mem_of_getElem? (i := 18) rfl)
theorem kl_RX12_394 : Cond.methodLink RX12 394 yX12_isShut ∈ lw_tbl := mt_9 (List.mem_of_getElem? (i := 73) rfl)
theorem kl_RX12_401 : Cond.methodLink RX12 401 yX12_crossingsBy ∈ lw_tbl := mt_9 (List.mem_of_getElem? (i := 87) rfl)
theorem kl_RX12_404 : Cond.methodLink RX12 404 yX12_bits ∈ lw_tbl := mt_9 (List.mem_of_getElem? (i := 95) rfl)
theorem kl_RX12_407 : Cond.methodLink RX12 407 yX12_turnedPanels ∈ lw_tbl := mt_9 (List.mem_of_getElem? (i := 110) rfl)
theorem kl_RX12_410 : Cond.methodLink RX12 410 yX12_flaps ∈ lw_tbl := mt_9 (List.mem_of_getElem? (i := 114) rfl)
theorem kl_RX12_413 : Cond.methodLink RX12 413 yX12_definedImages ∈ lw_tbl := mt_9 (List.mem_of_getElem? (i := 118) rfl)
theorem ks_RX0_126 : Cond.fieldLinkNest RX0 126 (szC 2).1 (szC 2).2 "[I" RX11 ∈ lw_tbl := mt_4 (List.mem_of_getElem? (i := 200) rfl)
theorem ks_RX0_129 : Cond.fieldLinkNest RX0 129 (szC 3).1 (szC 3).2 "[I" RX11 ∈ lw_tbl := mt_4 (List.mem_of_getElem? (i := 202) rfl)
theorem ks_RX8_91 : Cond.fieldLink RX8 91 (szC 0).1 (szC 0).2 "[I" ∈ lw_tbl := mt_4 (List.mem_of_getElem? (i := 102) rfl)
theorem ks_RX8_94 : Cond.fieldLink RX8 94 (szC 1).1 (szC 1).2 "[I" ∈ lw_tbl := mt_4 (List.mem_of_getElem? (i := 104) rfl)
theorem kc_RX11_295 : Cond.constantLong RX11 295 (-2) ∈ lw_ok := lw_in (mt_5 (List.mem_of_getElem? (i := 226) rfl)) rfl
theorem kc_RX11_341 : Cond.constantLong RX11 341 (-1) ∈ lw_ok := lw_in (mt_6 (List.mem_of_getElem? (i := 166) rfl)) rfl
theorem kc_RX4_101 : Cond.constantLong RX4 101 (1048576) ∈ lw_ok := lw_in (mt_6 (List.mem_of_getElem? (i := 80) rfl)) rfl
theorem kc_RX5_113 : Cond.constantLong RX5 113 (3) ∈ lw_ok := lw_in (mt_5 (List.mem_of_getElem? (i := 235) rfl)) rfl
theorem kc_RX12_354 : Cond.constantLong RX12 354 (-1) ∈ lw_ok := lw_in (mt_8 (List.mem_of_getElem? (i := 213) rfl)) rfl
theorem kc_RX12_397 : Cond.constantLong RX12 397 (-2) ∈ lw_ok := lw_in (mt_9 (List.mem_of_getElem? (i := 77) rfl)) rfl
theorem kc_RX12_399 : Cond.constantLong RX12 399 (3) ∈ lw_ok := lw_in (mt_9 (List.mem_of_getElem? (i := 78) rfl)) rfl
end
