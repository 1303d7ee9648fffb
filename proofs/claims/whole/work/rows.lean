section
-- ===== PART A: goes FIRST, ahead of the names: the tables' words, and 'selects' of the private methods out of them =====
/-- a private method of a class that the tables say can be made, by its rows of tables_1 -/
def lw_okq (q : MethodName × Nat) : Prop := (q.1.cls ≠ "java/lang/invoke/MethodHandle" ∧ q.1.cls ≠ "java/lang/invoke/VarHandle") ∧ Cond.instantiable q.1.cls q.2 ∈ tables_1 ∧ Cond.privateMethod q.1 ∈ tables_1 ∧ Cond.instanceMethod q.1 ∈ tables_1
theorem lw_p0 : lw_okq (⟨"DieLineChecker$Reader", "takeByte", "([III)V"⟩, 8) := ⟨⟨by decide +kernel, by decide +kernel⟩, List.mem_of_getElem? (i := 193) (by decide +kernel), List.mem_of_getElem? (i := 528) (by decide +kernel), List.mem_of_getElem? (i := 529) (by decide +kernel)⟩
theorem lw_p1 : lw_okq (⟨"DieLineChecker$Reader", "takeNumber", "([III)V"⟩, 8) := ⟨⟨by decide +kernel, by decide +kernel⟩, List.mem_of_getElem? (i := 193) (by decide +kernel), List.mem_of_getElem? (i := 535) (by decide +kernel), List.mem_of_getElem? (i := 536) (by decide +kernel)⟩
theorem lw_p2 : lw_okq (⟨"DieLineChecker$Reader", "fail", "(II)V"⟩, 8) := ⟨⟨by decide +kernel, by decide +kernel⟩, List.mem_of_getElem? (i := 193) (by decide +kernel), List.mem_of_getElem? (i := 539) (by decide +kernel), List.mem_of_getElem? (i := 540) (by decide +kernel)⟩
theorem lw_p3 : lw_okq (⟨"DieLineChecker$Reader", "endItem", "(I)V"⟩, 8) := ⟨⟨by decide +kernel, by decide +kernel⟩, List.mem_of_getElem? (i := 193) (by decide +kernel), List.mem_of_getElem? (i := 546) (by decide +kernel), List.mem_of_getElem? (i := 547) (by decide +kernel)⟩
theorem lw_p4 : lw_okq (⟨"DieLineChecker$Reader", "beginItem", "(II)V"⟩, 8) := ⟨⟨by decide +kernel, by decide +kernel⟩, List.mem_of_getElem? (i := 193) (by decide +kernel), List.mem_of_getElem? (i := 550) (by decide +kernel), List.mem_of_getElem? (i := 551) (by decide +kernel)⟩
theorem lw_p5 : lw_okq (⟨"DieLineChecker$Reader", "carryOut", "()Z"⟩, 8) := ⟨⟨by decide +kernel, by decide +kernel⟩, List.mem_of_getElem? (i := 193) (by decide +kernel), List.mem_of_getElem? (i := 554) (by decide +kernel), List.mem_of_getElem? (i := 555) (by decide +kernel)⟩
theorem lw_p6 : lw_okq (⟨"DieLineChecker$Reader", "hangPanel", "()Z"⟩, 8) := ⟨⟨by decide +kernel, by decide +kernel⟩, List.mem_of_getElem? (i := 193) (by decide +kernel), List.mem_of_getElem? (i := 588) (by decide +kernel), List.mem_of_getElem? (i := 589) (by decide +kernel)⟩
theorem lw_p7 : lw_okq (⟨"DieLineChecker$Design", "draft", "(IIIIII)V"⟩, 7) := ⟨⟨by decide +kernel, by decide +kernel⟩, List.mem_of_getElem? (i := 24) (by decide +kernel), List.mem_of_getElem? (i := 603) (by decide +kernel), List.mem_of_getElem? (i := 604) (by decide +kernel)⟩
theorem lw_p8 : lw_okq (⟨"DieLineChecker$Design", "fits", "(I)Z"⟩, 7) := ⟨⟨by decide +kernel, by decide +kernel⟩, List.mem_of_getElem? (i := 24) (by decide +kernel), List.mem_of_getElem? (i := 610) (by decide +kernel), List.mem_of_getElem? (i := 611) (by decide +kernel)⟩
theorem lw_p9 : lw_okq (⟨"DieLineChecker$Reader", "glue", "()Z"⟩, 8) := ⟨⟨by decide +kernel, by decide +kernel⟩, List.mem_of_getElem? (i := 193) (by decide +kernel), List.mem_of_getElem? (i := 626) (by decide +kernel), List.mem_of_getElem? (i := 627) (by decide +kernel)⟩
theorem lw_p10 : lw_okq (⟨"DieLineChecker$Reader", "printImage", "()Z"⟩, 8) := ⟨⟨by decide +kernel, by decide +kernel⟩, List.mem_of_getElem? (i := 193) (by decide +kernel), List.mem_of_getElem? (i := 655) (by decide +kernel), List.mem_of_getElem? (i := 656) (by decide +kernel)⟩
theorem lw_p11 : lw_okq (⟨"DieLineChecker", "findSeams", "()V"⟩, 16) := ⟨⟨by decide +kernel, by decide +kernel⟩, List.mem_of_getElem? (i := 16) (by decide +kernel), List.mem_of_getElem? (i := 789) (by decide +kernel), List.mem_of_getElem? (i := 790) (by decide +kernel)⟩
theorem lw_p12 : lw_okq (⟨"DieLineChecker$Pose", "outward", "(I)I"⟩, 14) := ⟨⟨by decide +kernel, by decide +kernel⟩, List.mem_of_getElem? (i := 282) (by decide +kernel), List.mem_of_getElem? (i := 831) (by decide +kernel), List.mem_of_getElem? (i := 832) (by decide +kernel)⟩
theorem lw_p13 : lw_okq (⟨"DieLineChecker$Seams", "joinSide", "(III)V"⟩, 9) := ⟨⟨by decide +kernel, by decide +kernel⟩, List.mem_of_getElem? (i := 269) (by decide +kernel), List.mem_of_getElem? (i := 839) (by decide +kernel), List.mem_of_getElem? (i := 840) (by decide +kernel)⟩
theorem lw_p14 : lw_okq (⟨"DieLineChecker$Artwork", "takePoints", "(I)V"⟩, 11) := ⟨⟨by decide +kernel, by decide +kernel⟩, List.mem_of_getElem? (i := 263) (by decide +kernel), List.mem_of_getElem? (i := 895) (by decide +kernel), List.mem_of_getElem? (i := 896) (by decide +kernel)⟩
theorem lw_p15 : lw_okq (⟨"DieLineChecker$Artwork", "takePoint", "(III)V"⟩, 11) := ⟨⟨by decide +kernel, by decide +kernel⟩, List.mem_of_getElem? (i := 263) (by decide +kernel), List.mem_of_getElem? (i := 917) (by decide +kernel), List.mem_of_getElem? (i := 918) (by decide +kernel)⟩
def lw_privs_1 : List (MethodName × Nat) := [(⟨"DieLineChecker$Reader", "takeByte", "([III)V"⟩, 8), (⟨"DieLineChecker$Reader", "takeNumber", "([III)V"⟩, 8), (⟨"DieLineChecker$Reader", "fail", "(II)V"⟩, 8), (⟨"DieLineChecker$Reader", "endItem", "(I)V"⟩, 8), (⟨"DieLineChecker$Reader", "beginItem", "(II)V"⟩, 8), (⟨"DieLineChecker$Reader", "carryOut", "()Z"⟩, 8), (⟨"DieLineChecker$Reader", "hangPanel", "()Z"⟩, 8), (⟨"DieLineChecker$Design", "draft", "(IIIIII)V"⟩, 7), (⟨"DieLineChecker$Design", "fits", "(I)Z"⟩, 7), (⟨"DieLineChecker$Reader", "glue", "()Z"⟩, 8), (⟨"DieLineChecker$Reader", "printImage", "()Z"⟩, 8), (⟨"DieLineChecker", "findSeams", "()V"⟩, 16), (⟨"DieLineChecker$Pose", "outward", "(I)I"⟩, 14), (⟨"DieLineChecker$Seams", "joinSide", "(III)V"⟩, 9), (⟨"DieLineChecker$Artwork", "takePoints", "(I)V"⟩, 11), (⟨"DieLineChecker$Artwork", "takePoint", "(III)V"⟩, 11)]
theorem lw_r1 : ∀ q ∈ lw_privs_1, lw_okq q := List.forall_mem_cons.mpr ⟨lw_p0, List.forall_mem_cons.mpr ⟨lw_p1, List.forall_mem_cons.mpr ⟨lw_p2, List.forall_mem_cons.mpr ⟨lw_p3, List.forall_mem_cons.mpr ⟨lw_p4, List.forall_mem_cons.mpr ⟨lw_p5, List.forall_mem_cons.mpr ⟨lw_p6, List.forall_mem_cons.mpr ⟨lw_p7, List.forall_mem_cons.mpr ⟨lw_p8, List.forall_mem_cons.mpr ⟨lw_p9, List.forall_mem_cons.mpr ⟨lw_p10, List.forall_mem_cons.mpr ⟨lw_p11, List.forall_mem_cons.mpr ⟨lw_p12, List.forall_mem_cons.mpr ⟨lw_p13, List.forall_mem_cons.mpr ⟨lw_p14, List.forall_mem_cons.mpr ⟨lw_p15, fun _ h => absurd h List.not_mem_nil⟩⟩⟩⟩⟩⟩⟩⟩⟩⟩⟩⟩⟩⟩⟩⟩
theorem lw_p16 : lw_okq (⟨"DieLineChecker$Artwork", "takeCoordinates", "(LDieLineChecker$Design;LDieLineChecker$Panel;I)V"⟩, 11) := ⟨⟨by decide +kernel, by decide +kernel⟩, List.mem_of_getElem? (i := 263) (by decide +kernel), List.mem_of_getElem? (i := 925) (by decide +kernel), List.mem_of_getElem? (i := 926) (by decide +kernel)⟩
theorem lw_p17 : lw_okq (⟨"DieLineChecker$Artwork", "agrees", "(LDieLineChecker$Design;IZ)Z"⟩, 11) := ⟨⟨by decide +kernel, by decide +kernel⟩, List.mem_of_getElem? (i := 263) (by decide +kernel), List.mem_of_getElem? (i := 942) (by decide +kernel), List.mem_of_getElem? (i := 943) (by decide +kernel)⟩
theorem lw_p18 : lw_okq (⟨"DieLineChecker$Artwork", "spreadOnce", "(LDieLineChecker$Design;I)Z"⟩, 11) := ⟨⟨by decide +kernel, by decide +kernel⟩, List.mem_of_getElem? (i := 263) (by decide +kernel), List.mem_of_getElem? (i := 967) (by decide +kernel), List.mem_of_getElem? (i := 968) (by decide +kernel)⟩
theorem lw_p19 : lw_okq (⟨"DieLineChecker$Blank", "newLine", "(LDieLineChecker$Design;II)I"⟩, 2) := ⟨⟨by decide +kernel, by decide +kernel⟩, List.mem_of_getElem? (i := 228) (by decide +kernel), List.mem_of_getElem? (i := 1014) (by decide +kernel), List.mem_of_getElem? (i := 1015) (by decide +kernel)⟩
theorem lw_p20 : lw_okq (⟨"DieLineChecker", "pitchFault", "(II)I"⟩, 16) := ⟨⟨by decide +kernel, by decide +kernel⟩, List.mem_of_getElem? (i := 16) (by decide +kernel), List.mem_of_getElem? (i := 1056) (by decide +kernel), List.mem_of_getElem? (i := 1057) (by decide +kernel)⟩
theorem lw_p21 : lw_okq (⟨"DieLineChecker$Blank", "take", "(II)V"⟩, 2) := ⟨⟨by decide +kernel, by decide +kernel⟩, List.mem_of_getElem? (i := 228) (by decide +kernel), List.mem_of_getElem? (i := 1077) (by decide +kernel), List.mem_of_getElem? (i := 1078) (by decide +kernel)⟩
theorem lw_p22 : lw_okq (⟨"DieLineChecker$Blank", "isFree", "(II)Z"⟩, 2) := ⟨⟨by decide +kernel, by decide +kernel⟩, List.mem_of_getElem? (i := 228) (by decide +kernel), List.mem_of_getElem? (i := 1081) (by decide +kernel), List.mem_of_getElem? (i := 1082) (by decide +kernel)⟩
theorem lw_p23 : lw_okq (⟨"DieLineChecker$Seams", "isFold", "(LDieLineChecker$Design;I)Z"⟩, 9) := ⟨⟨by decide +kernel, by decide +kernel⟩, List.mem_of_getElem? (i := 269) (by decide +kernel), List.mem_of_getElem? (i := 1136) (by decide +kernel), List.mem_of_getElem? (i := 1137) (by decide +kernel)⟩
theorem lw_p24 : lw_okq (⟨"DieLineChecker$Findings", "limit", "(I)I"⟩, 8) := ⟨⟨by decide +kernel, by decide +kernel⟩, List.mem_of_getElem? (i := 257) (by decide +kernel), List.mem_of_getElem? (i := 1206) (by decide +kernel), List.mem_of_getElem? (i := 1207) (by decide +kernel)⟩
theorem lw_p25 : lw_okq (⟨"DieLineChecker$Folding", "nextFold", "(LDieLineChecker$Design;III)I"⟩, 5) := ⟨⟨by decide +kernel, by decide +kernel⟩, List.mem_of_getElem? (i := 275) (by decide +kernel), List.mem_of_getElem? (i := 1237) (by decide +kernel), List.mem_of_getElem? (i := 1238) (by decide +kernel)⟩
theorem lw_p26 : lw_okq (⟨"DieLineChecker$Findings", "collectPairs", "(LDieLineChecker$Design;)V"⟩, 8) := ⟨⟨by decide +kernel, by decide +kernel⟩, List.mem_of_getElem? (i := 257) (by decide +kernel), List.mem_of_getElem? (i := 1268) (by decide +kernel), List.mem_of_getElem? (i := 1269) (by decide +kernel)⟩
theorem lw_p27 : lw_okq (⟨"DieLineChecker$Findings", "add", "(IIIII)V"⟩, 8) := ⟨⟨by decide +kernel, by decide +kernel⟩, List.mem_of_getElem? (i := 257) (by decide +kernel), List.mem_of_getElem? (i := 1273) (by decide +kernel), List.mem_of_getElem? (i := 1274) (by decide +kernel)⟩
theorem lw_p28 : lw_okq (⟨"DieLineChecker$Findings", "weight", "(I)I"⟩, 8) := ⟨⟨by decide +kernel, by decide +kernel⟩, List.mem_of_getElem? (i := 257) (by decide +kernel), List.mem_of_getElem? (i := 1277) (by decide +kernel), List.mem_of_getElem? (i := 1278) (by decide +kernel)⟩
theorem lw_p29 : lw_okq (⟨"DieLineChecker$Findings", "collectFlap", "(LDieLineChecker$Design;I)V"⟩, 8) := ⟨⟨by decide +kernel, by decide +kernel⟩, List.mem_of_getElem? (i := 257) (by decide +kernel), List.mem_of_getElem? (i := 1283) (by decide +kernel), List.mem_of_getElem? (i := 1284) (by decide +kernel)⟩
theorem lw_p30 : lw_okq (⟨"DieLineChecker$Findings", "collectOpen", "(I)V"⟩, 8) := ⟨⟨by decide +kernel, by decide +kernel⟩, List.mem_of_getElem? (i := 257) (by decide +kernel), List.mem_of_getElem? (i := 1298) (by decide +kernel), List.mem_of_getElem? (i := 1299) (by decide +kernel)⟩
theorem lw_p31 : lw_okq (⟨"DieLineChecker$Findings", "collectPrint", "(LDieLineChecker$Design;I)V"⟩, 8) := ⟨⟨by decide +kernel, by decide +kernel⟩, List.mem_of_getElem? (i := 257) (by decide +kernel), List.mem_of_getElem? (i := 1302) (by decide +kernel), List.mem_of_getElem? (i := 1303) (by decide +kernel)⟩
def lw_privs_2 : List (MethodName × Nat) := [(⟨"DieLineChecker$Artwork", "takeCoordinates", "(LDieLineChecker$Design;LDieLineChecker$Panel;I)V"⟩, 11), (⟨"DieLineChecker$Artwork", "agrees", "(LDieLineChecker$Design;IZ)Z"⟩, 11), (⟨"DieLineChecker$Artwork", "spreadOnce", "(LDieLineChecker$Design;I)Z"⟩, 11), (⟨"DieLineChecker$Blank", "newLine", "(LDieLineChecker$Design;II)I"⟩, 2), (⟨"DieLineChecker", "pitchFault", "(II)I"⟩, 16), (⟨"DieLineChecker$Blank", "take", "(II)V"⟩, 2), (⟨"DieLineChecker$Blank", "isFree", "(II)Z"⟩, 2), (⟨"DieLineChecker$Seams", "isFold", "(LDieLineChecker$Design;I)Z"⟩, 9), (⟨"DieLineChecker$Findings", "limit", "(I)I"⟩, 8), (⟨"DieLineChecker$Folding", "nextFold", "(LDieLineChecker$Design;III)I"⟩, 5), (⟨"DieLineChecker$Findings", "collectPairs", "(LDieLineChecker$Design;)V"⟩, 8), (⟨"DieLineChecker$Findings", "add", "(IIIII)V"⟩, 8), (⟨"DieLineChecker$Findings", "weight", "(I)I"⟩, 8), (⟨"DieLineChecker$Findings", "collectFlap", "(LDieLineChecker$Design;I)V"⟩, 8), (⟨"DieLineChecker$Findings", "collectOpen", "(I)V"⟩, 8), (⟨"DieLineChecker$Findings", "collectPrint", "(LDieLineChecker$Design;I)V"⟩, 8)]
theorem lw_r2 : ∀ q ∈ lw_privs_2, lw_okq q := List.forall_mem_cons.mpr ⟨lw_p16, List.forall_mem_cons.mpr ⟨lw_p17, List.forall_mem_cons.mpr ⟨lw_p18, List.forall_mem_cons.mpr ⟨lw_p19, List.forall_mem_cons.mpr ⟨lw_p20, List.forall_mem_cons.mpr ⟨lw_p21, List.forall_mem_cons.mpr ⟨lw_p22, List.forall_mem_cons.mpr ⟨lw_p23, List.forall_mem_cons.mpr ⟨lw_p24, List.forall_mem_cons.mpr ⟨lw_p25, List.forall_mem_cons.mpr ⟨lw_p26, List.forall_mem_cons.mpr ⟨lw_p27, List.forall_mem_cons.mpr ⟨lw_p28, List.forall_mem_cons.mpr ⟨lw_p29, List.forall_mem_cons.mpr ⟨lw_p30, List.forall_mem_cons.mpr ⟨lw_p31, fun _ h => absurd h List.not_mem_nil⟩⟩⟩⟩⟩⟩⟩⟩⟩⟩⟩⟩⟩⟩⟩⟩
theorem lw_p32 : lw_okq (⟨"DieLineChecker$Findings", "collectIntrusions", "(LDieLineChecker$Design;III)V"⟩, 8) := ⟨⟨by decide +kernel, by decide +kernel⟩, List.mem_of_getElem? (i := 257) (by decide +kernel), List.mem_of_getElem? (i := 1316) (by decide +kernel), List.mem_of_getElem? (i := 1317) (by decide +kernel)⟩
theorem lw_p33 : lw_okq (⟨"DieLineChecker$Findings", "collectBreaks", "(LDieLineChecker$Design;)V"⟩, 8) := ⟨⟨by decide +kernel, by decide +kernel⟩, List.mem_of_getElem? (i := 257) (by decide +kernel), List.mem_of_getElem? (i := 1324) (by decide +kernel), List.mem_of_getElem? (i := 1325) (by decide +kernel)⟩
theorem lw_p34 : lw_okq (⟨"DieLineCheckerModel", "clearDesign", "()V"⟩, 30) := ⟨⟨by decide +kernel, by decide +kernel⟩, List.mem_of_getElem? (i := 1400) (by decide +kernel), List.mem_of_getElem? (i := 1406) (by decide +kernel), List.mem_of_getElem? (i := 1407) (by decide +kernel)⟩
theorem lw_p35 : lw_okq (⟨"DieLineCheckerModel", "many", "()I"⟩, 30) := ⟨⟨by decide +kernel, by decide +kernel⟩, List.mem_of_getElem? (i := 1400) (by decide +kernel), List.mem_of_getElem? (i := 1512) (by decide +kernel), List.mem_of_getElem? (i := 1513) (by decide +kernel)⟩
theorem lw_p36 : lw_okq (⟨"DieLineCheckerModel", "begins", "()V"⟩, 30) := ⟨⟨by decide +kernel, by decide +kernel⟩, List.mem_of_getElem? (i := 1400) (by decide +kernel), List.mem_of_getElem? (i := 1520) (by decide +kernel), List.mem_of_getElem? (i := 1521) (by decide +kernel)⟩
theorem lw_p37 : lw_okq (⟨"DieLineCheckerModel", "ends", "(I)I"⟩, 30) := ⟨⟨by decide +kernel, by decide +kernel⟩, List.mem_of_getElem? (i := 1400) (by decide +kernel), List.mem_of_getElem? (i := 1524) (by decide +kernel), List.mem_of_getElem? (i := 1525) (by decide +kernel)⟩
theorem lw_p38 : lw_okq (⟨"DieLineCheckerModel", "doSheet", "(II)I"⟩, 30) := ⟨⟨by decide +kernel, by decide +kernel⟩, List.mem_of_getElem? (i := 1400) (by decide +kernel), List.mem_of_getElem? (i := 1532) (by decide +kernel), List.mem_of_getElem? (i := 1533) (by decide +kernel)⟩
theorem lw_p39 : lw_okq (⟨"DieLineCheckerModel", "refuse", "(I)I"⟩, 30) := ⟨⟨by decide +kernel, by decide +kernel⟩, List.mem_of_getElem? (i := 1400) (by decide +kernel), List.mem_of_getElem? (i := 1536) (by decide +kernel), List.mem_of_getElem? (i := 1537) (by decide +kernel)⟩
theorem lw_p40 : lw_okq (⟨"DieLineCheckerModel", "isValid", "()Z"⟩, 30) := ⟨⟨by decide +kernel, by decide +kernel⟩, List.mem_of_getElem? (i := 1400) (by decide +kernel), List.mem_of_getElem? (i := 1540) (by decide +kernel), List.mem_of_getElem? (i := 1541) (by decide +kernel)⟩
theorem lw_p41 : lw_okq (⟨"DieLineCheckerModel", "layFlat", "()V"⟩, 30) := ⟨⟨by decide +kernel, by decide +kernel⟩, List.mem_of_getElem? (i := 1400) (by decide +kernel), List.mem_of_getElem? (i := 1544) (by decide +kernel), List.mem_of_getElem? (i := 1545) (by decide +kernel)⟩
theorem lw_p42 : lw_okq (⟨"DieLineCheckerModel", "of", "(II)I"⟩, 30) := ⟨⟨by decide +kernel, by decide +kernel⟩, List.mem_of_getElem? (i := 1400) (by decide +kernel), List.mem_of_getElem? (i := 1548) (by decide +kernel), List.mem_of_getElem? (i := 1549) (by decide +kernel)⟩
theorem lw_p43 : lw_okq (⟨"DieLineCheckerModel", "sideLength", "(II)I"⟩, 30) := ⟨⟨by decide +kernel, by decide +kernel⟩, List.mem_of_getElem? (i := 1400) (by decide +kernel), List.mem_of_getElem? (i := 1552) (by decide +kernel), List.mem_of_getElem? (i := 1553) (by decide +kernel)⟩
theorem lw_p44 : lw_okq (⟨"DieLineCheckerModel", "overlap", "(II)Z"⟩, 30) := ⟨⟨by decide +kernel, by decide +kernel⟩, List.mem_of_getElem? (i := 1400) (by decide +kernel), List.mem_of_getElem? (i := 1556) (by decide +kernel), List.mem_of_getElem? (i := 1557) (by decide +kernel)⟩
theorem lw_p45 : lw_okq (⟨"DieLineCheckerModel", "doBase", "(IIII)I"⟩, 30) := ⟨⟨by decide +kernel, by decide +kernel⟩, List.mem_of_getElem? (i := 1400) (by decide +kernel), List.mem_of_getElem? (i := 1573) (by decide +kernel), List.mem_of_getElem? (i := 1574) (by decide +kernel)⟩
theorem lw_p46 : lw_okq (⟨"DieLineCheckerModel", "newPanel", "(I)V"⟩, 30) := ⟨⟨by decide +kernel, by decide +kernel⟩, List.mem_of_getElem? (i := 1400) (by decide +kernel), List.mem_of_getElem? (i := 1577) (by decide +kernel), List.mem_of_getElem? (i := 1578) (by decide +kernel)⟩
theorem lw_p47 : lw_okq (⟨"DieLineCheckerModel", "put", "(III)V"⟩, 30) := ⟨⟨by decide +kernel, by decide +kernel⟩, List.mem_of_getElem? (i := 1400) (by decide +kernel), List.mem_of_getElem? (i := 1581) (by decide +kernel), List.mem_of_getElem? (i := 1582) (by decide +kernel)⟩
def lw_privs_3 : List (MethodName × Nat) := [(⟨"DieLineChecker$Findings", "collectIntrusions", "(LDieLineChecker$Design;III)V"⟩, 8), (⟨"DieLineChecker$Findings", "collectBreaks", "(LDieLineChecker$Design;)V"⟩, 8), (⟨"DieLineCheckerModel", "clearDesign", "()V"⟩, 30), (⟨"DieLineCheckerModel", "many", "()I"⟩, 30), (⟨"DieLineCheckerModel", "begins", "()V"⟩, 30), (⟨"DieLineCheckerModel", "ends", "(I)I"⟩, 30), (⟨"DieLineCheckerModel", "doSheet", "(II)I"⟩, 30), (⟨"DieLineCheckerModel", "refuse", "(I)I"⟩, 30), (⟨"DieLineCheckerModel", "isValid", "()Z"⟩, 30), (⟨"DieLineCheckerModel", "layFlat", "()V"⟩, 30), (⟨"DieLineCheckerModel", "of", "(II)I"⟩, 30), (⟨"DieLineCheckerModel", "sideLength", "(II)I"⟩, 30), (⟨"DieLineCheckerModel", "overlap", "(II)Z"⟩, 30), (⟨"DieLineCheckerModel", "doBase", "(IIII)I"⟩, 30), (⟨"DieLineCheckerModel", "newPanel", "(I)V"⟩, 30), (⟨"DieLineCheckerModel", "put", "(III)V"⟩, 30)]
theorem lw_r3 : ∀ q ∈ lw_privs_3, lw_okq q := List.forall_mem_cons.mpr ⟨lw_p32, List.forall_mem_cons.mpr ⟨lw_p33, List.forall_mem_cons.mpr ⟨lw_p34, List.forall_mem_cons.mpr ⟨lw_p35, List.forall_mem_cons.mpr ⟨lw_p36, List.forall_mem_cons.mpr ⟨lw_p37, List.forall_mem_cons.mpr ⟨lw_p38, List.forall_mem_cons.mpr ⟨lw_p39, List.forall_mem_cons.mpr ⟨lw_p40, List.forall_mem_cons.mpr ⟨lw_p41, List.forall_mem_cons.mpr ⟨lw_p42, List.forall_mem_cons.mpr ⟨lw_p43, List.forall_mem_cons.mpr ⟨lw_p44, List.forall_mem_cons.mpr ⟨lw_p45, List.forall_mem_cons.mpr ⟨lw_p46, List.forall_mem_cons.mpr ⟨lw_p47, fun _ h => absurd h List.not_mem_nil⟩⟩⟩⟩⟩⟩⟩⟩⟩⟩⟩⟩⟩⟩⟩⟩
theorem lw_p48 : lw_okq (⟨"DieLineCheckerModel", "doPanel", "(IIIIII)I"⟩, 30) := ⟨⟨by decide +kernel, by decide +kernel⟩, List.mem_of_getElem? (i := 1400) (by decide +kernel), List.mem_of_getElem? (i := 1589) (by decide +kernel), List.mem_of_getElem? (i := 1590) (by decide +kernel)⟩
theorem lw_p49 : lw_okq (⟨"DieLineCheckerModel", "isPanel", "(I)Z"⟩, 30) := ⟨⟨by decide +kernel, by decide +kernel⟩, List.mem_of_getElem? (i := 1400) (by decide +kernel), List.mem_of_getElem? (i := 1593) (by decide +kernel), List.mem_of_getElem? (i := 1594) (by decide +kernel)⟩
theorem lw_p50 : lw_okq (⟨"DieLineCheckerModel", "isHung", "(I)Z"⟩, 30) := ⟨⟨by decide +kernel, by decide +kernel⟩, List.mem_of_getElem? (i := 1400) (by decide +kernel), List.mem_of_getElem? (i := 1605) (by decide +kernel), List.mem_of_getElem? (i := 1606) (by decide +kernel)⟩
theorem lw_p51 : lw_okq (⟨"DieLineCheckerModel", "doFlap", "(II)I"⟩, 30) := ⟨⟨by decide +kernel, by decide +kernel⟩, List.mem_of_getElem? (i := 1400) (by decide +kernel), List.mem_of_getElem? (i := 1617) (by decide +kernel), List.mem_of_getElem? (i := 1618) (by decide +kernel)⟩
theorem lw_p52 : lw_okq (⟨"DieLineCheckerModel", "doImage", "(III)I"⟩, 30) := ⟨⟨by decide +kernel, by decide +kernel⟩, List.mem_of_getElem? (i := 1400) (by decide +kernel), List.mem_of_getElem? (i := 1625) (by decide +kernel), List.mem_of_getElem? (i := 1626) (by decide +kernel)⟩
theorem lw_p53 : lw_okq (⟨"DieLineCheckerModel", "doPlace", "(IIIII)I"⟩, 30) := ⟨⟨by decide +kernel, by decide +kernel⟩, List.mem_of_getElem? (i := 1400) (by decide +kernel), List.mem_of_getElem? (i := 1633) (by decide +kernel), List.mem_of_getElem? (i := 1634) (by decide +kernel)⟩
theorem lw_p54 : lw_okq (⟨"DieLineCheckerModel", "skips", "()V"⟩, 30) := ⟨⟨by decide +kernel, by decide +kernel⟩, List.mem_of_getElem? (i := 1400) (by decide +kernel), List.mem_of_getElem? (i := 1661) (by decide +kernel), List.mem_of_getElem? (i := 1662) (by decide +kernel)⟩
theorem lw_p55 : lw_okq (⟨"DieLineCheckerModel", "here", "(I)I"⟩, 30) := ⟨⟨by decide +kernel, by decide +kernel⟩, List.mem_of_getElem? (i := 1400) (by decide +kernel), List.mem_of_getElem? (i := 1665) (by decide +kernel), List.mem_of_getElem? (i := 1666) (by decide +kernel)⟩
theorem lw_p56 : lw_okq (⟨"DieLineCheckerModel", "readItem", "()V"⟩, 30) := ⟨⟨by decide +kernel, by decide +kernel⟩, List.mem_of_getElem? (i := 1400) (by decide +kernel), List.mem_of_getElem? (i := 1669) (by decide +kernel), List.mem_of_getElem? (i := 1670) (by decide +kernel)⟩
theorem lw_p57 : lw_okq (⟨"DieLineCheckerModel", "isDigit", "(I)Z"⟩, 30) := ⟨⟨by decide +kernel, by decide +kernel⟩, List.mem_of_getElem? (i := 1400) (by decide +kernel), List.mem_of_getElem? (i := 1676) (by decide +kernel), List.mem_of_getElem? (i := 1677) (by decide +kernel)⟩
theorem lw_p58 : lw_okq (⟨"DieLineCheckerModel", "numberEnd", "(I)I"⟩, 30) := ⟨⟨by decide +kernel, by decide +kernel⟩, List.mem_of_getElem? (i := 1400) (by decide +kernel), List.mem_of_getElem? (i := 1680) (by decide +kernel), List.mem_of_getElem? (i := 1681) (by decide +kernel)⟩
theorem lw_p59 : lw_okq (⟨"DieLineCheckerModel", "faulty", "(I)V"⟩, 30) := ⟨⟨by decide +kernel, by decide +kernel⟩, List.mem_of_getElem? (i := 1400) (by decide +kernel), List.mem_of_getElem? (i := 1684) (by decide +kernel), List.mem_of_getElem? (i := 1685) (by decide +kernel)⟩
theorem lw_p60 : lw_okq (⟨"DieLineCheckerModel", "numberAt", "(II)I"⟩, 30) := ⟨⟨by decide +kernel, by decide +kernel⟩, List.mem_of_getElem? (i := 1400) (by decide +kernel), List.mem_of_getElem? (i := 1688) (by decide +kernel), List.mem_of_getElem? (i := 1689) (by decide +kernel)⟩
theorem lw_p61 : lw_okq (⟨"DieLineCheckerModel", "carryOut", "(I)V"⟩, 30) := ⟨⟨by decide +kernel, by decide +kernel⟩, List.mem_of_getElem? (i := 1400) (by decide +kernel), List.mem_of_getElem? (i := 1692) (by decide +kernel), List.mem_of_getElem? (i := 1693) (by decide +kernel)⟩
theorem lw_p62 : lw_okq (⟨"DieLineCheckerModel", "limitOf", "(I)I"⟩, 30) := ⟨⟨by decide +kernel, by decide +kernel⟩, List.mem_of_getElem? (i := 1400) (by decide +kernel), List.mem_of_getElem? (i := 1704) (by decide +kernel), List.mem_of_getElem? (i := 1705) (by decide +kernel)⟩
theorem lw_p63 : lw_okq (⟨"DieLineCheckerModel", "findSeams", "(I)V"⟩, 30) := ⟨⟨by decide +kernel, by decide +kernel⟩, List.mem_of_getElem? (i := 1400) (by decide +kernel), List.mem_of_getElem? (i := 1708) (by decide +kernel), List.mem_of_getElem? (i := 1709) (by decide +kernel)⟩
def lw_privs_4 : List (MethodName × Nat) := [(⟨"DieLineCheckerModel", "doPanel", "(IIIIII)I"⟩, 30), (⟨"DieLineCheckerModel", "isPanel", "(I)Z"⟩, 30), (⟨"DieLineCheckerModel", "isHung", "(I)Z"⟩, 30), (⟨"DieLineCheckerModel", "doFlap", "(II)I"⟩, 30), (⟨"DieLineCheckerModel", "doImage", "(III)I"⟩, 30), (⟨"DieLineCheckerModel", "doPlace", "(IIIII)I"⟩, 30), (⟨"DieLineCheckerModel", "skips", "()V"⟩, 30), (⟨"DieLineCheckerModel", "here", "(I)I"⟩, 30), (⟨"DieLineCheckerModel", "readItem", "()V"⟩, 30), (⟨"DieLineCheckerModel", "isDigit", "(I)Z"⟩, 30), (⟨"DieLineCheckerModel", "numberEnd", "(I)I"⟩, 30), (⟨"DieLineCheckerModel", "faulty", "(I)V"⟩, 30), (⟨"DieLineCheckerModel", "numberAt", "(II)I"⟩, 30), (⟨"DieLineCheckerModel", "carryOut", "(I)V"⟩, 30), (⟨"DieLineCheckerModel", "limitOf", "(I)I"⟩, 30), (⟨"DieLineCheckerModel", "findSeams", "(I)V"⟩, 30)]
theorem lw_r4 : ∀ q ∈ lw_privs_4, lw_okq q := List.forall_mem_cons.mpr ⟨lw_p48, List.forall_mem_cons.mpr ⟨lw_p49, List.forall_mem_cons.mpr ⟨lw_p50, List.forall_mem_cons.mpr ⟨lw_p51, List.forall_mem_cons.mpr ⟨lw_p52, List.forall_mem_cons.mpr ⟨lw_p53, List.forall_mem_cons.mpr ⟨lw_p54, List.forall_mem_cons.mpr ⟨lw_p55, List.forall_mem_cons.mpr ⟨lw_p56, List.forall_mem_cons.mpr ⟨lw_p57, List.forall_mem_cons.mpr ⟨lw_p58, List.forall_mem_cons.mpr ⟨lw_p59, List.forall_mem_cons.mpr ⟨lw_p60, List.forall_mem_cons.mpr ⟨lw_p61, List.forall_mem_cons.mpr ⟨lw_p62, List.forall_mem_cons.mpr ⟨lw_p63, fun _ h => absurd h List.not_mem_nil⟩⟩⟩⟩⟩⟩⟩⟩⟩⟩⟩⟩⟩⟩⟩⟩
theorem lw_p64 : lw_okq (⟨"DieLineCheckerModel", "fold", "(I)V"⟩, 30) := ⟨⟨by decide +kernel, by decide +kernel⟩, List.mem_of_getElem? (i := 1400) (by decide +kernel), List.mem_of_getElem? (i := 1712) (by decide +kernel), List.mem_of_getElem? (i := 1713) (by decide +kernel)⟩
theorem lw_p65 : lw_okq (⟨"DieLineCheckerModel", "layBase", "()V"⟩, 30) := ⟨⟨by decide +kernel, by decide +kernel⟩, List.mem_of_getElem? (i := 1400) (by decide +kernel), List.mem_of_getElem? (i := 1716) (by decide +kernel), List.mem_of_getElem? (i := 1717) (by decide +kernel)⟩
theorem lw_p66 : lw_okq (⟨"DieLineCheckerModel", "layHung", "(II)V"⟩, 30) := ⟨⟨by decide +kernel, by decide +kernel⟩, List.mem_of_getElem? (i := 1400) (by decide +kernel), List.mem_of_getElem? (i := 1720) (by decide +kernel), List.mem_of_getElem? (i := 1721) (by decide +kernel)⟩
theorem lw_p67 : lw_okq (⟨"DieLineCheckerModel", "meet", "(IIIII)V"⟩, 30) := ⟨⟨by decide +kernel, by decide +kernel⟩, List.mem_of_getElem? (i := 1400) (by decide +kernel), List.mem_of_getElem? (i := 1724) (by decide +kernel), List.mem_of_getElem? (i := 1725) (by decide +kernel)⟩
theorem lw_p68 : lw_okq (⟨"DieLineCheckerModel", "sideAxis", "(II)I"⟩, 30) := ⟨⟨by decide +kernel, by decide +kernel⟩, List.mem_of_getElem? (i := 1400) (by decide +kernel), List.mem_of_getElem? (i := 1728) (by decide +kernel), List.mem_of_getElem? (i := 1729) (by decide +kernel)⟩
theorem lw_p69 : lw_okq (⟨"DieLineCheckerModel", "sideFrom", "(III)I"⟩, 30) := ⟨⟨by decide +kernel, by decide +kernel⟩, List.mem_of_getElem? (i := 1400) (by decide +kernel), List.mem_of_getElem? (i := 1732) (by decide +kernel), List.mem_of_getElem? (i := 1733) (by decide +kernel)⟩
theorem lw_p70 : lw_okq (⟨"DieLineCheckerModel", "cornerOf", "(III)I"⟩, 30) := ⟨⟨by decide +kernel, by decide +kernel⟩, List.mem_of_getElem? (i := 1400) (by decide +kernel), List.mem_of_getElem? (i := 1739) (by decide +kernel), List.mem_of_getElem? (i := 1740) (by decide +kernel)⟩
theorem lw_p71 : lw_okq (⟨"DieLineCheckerModel", "sideTo", "(III)I"⟩, 30) := ⟨⟨by decide +kernel, by decide +kernel⟩, List.mem_of_getElem? (i := 1400) (by decide +kernel), List.mem_of_getElem? (i := 1749) (by decide +kernel), List.mem_of_getElem? (i := 1750) (by decide +kernel)⟩
theorem lw_p72 : lw_okq (⟨"DieLineCheckerModel", "continueOver", "(IZ)I"⟩, 30) := ⟨⟨by decide +kernel, by decide +kernel⟩, List.mem_of_getElem? (i := 1400) (by decide +kernel), List.mem_of_getElem? (i := 1753) (by decide +kernel), List.mem_of_getElem? (i := 1754) (by decide +kernel)⟩
theorem lw_p73 : lw_okq (⟨"DieLineCheckerModel", "reachOf", "(II)I"⟩, 30) := ⟨⟨by decide +kernel, by decide +kernel⟩, List.mem_of_getElem? (i := 1400) (by decide +kernel), List.mem_of_getElem? (i := 1757) (by decide +kernel), List.mem_of_getElem? (i := 1758) (by decide +kernel)⟩
theorem lw_p74 : lw_okq (⟨"DieLineCheckerModel", "shows", "(I)Z"⟩, 30) := ⟨⟨by decide +kernel, by decide +kernel⟩, List.mem_of_getElem? (i := 1400) (by decide +kernel), List.mem_of_getElem? (i := 1761) (by decide +kernel), List.mem_of_getElem? (i := 1762) (by decide +kernel)⟩
theorem lw_p75 : lw_okq (⟨"DieLineCheckerModel", "turnedSize", "(IZ)I"⟩, 30) := ⟨⟨by decide +kernel, by decide +kernel⟩, List.mem_of_getElem? (i := 1400) (by decide +kernel), List.mem_of_getElem? (i := 1765) (by decide +kernel), List.mem_of_getElem? (i := 1766) (by decide +kernel)⟩
theorem lw_p76 : lw_okq (⟨"DieLineCheckerModel", "imageSize", "(IZ)I"⟩, 30) := ⟨⟨by decide +kernel, by decide +kernel⟩, List.mem_of_getElem? (i := 1400) (by decide +kernel), List.mem_of_getElem? (i := 1769) (by decide +kernel), List.mem_of_getElem? (i := 1770) (by decide +kernel)⟩
theorem lw_p77 : lw_okq (⟨"DieLineCheckerModel", "atEnd", "(IIIIZ)I"⟩, 30) := ⟨⟨by decide +kernel, by decide +kernel⟩, List.mem_of_getElem? (i := 1400) (by decide +kernel), List.mem_of_getElem? (i := 1773) (by decide +kernel), List.mem_of_getElem? (i := 1774) (by decide +kernel)⟩
theorem lw_p78 : lw_okq (⟨"DieLineCheckerModel", "along", "(IIIIZ)I"⟩, 30) := ⟨⟨by decide +kernel, by decide +kernel⟩, List.mem_of_getElem? (i := 1400) (by decide +kernel), List.mem_of_getElem? (i := 1777) (by decide +kernel), List.mem_of_getElem? (i := 1778) (by decide +kernel)⟩
theorem lw_p79 : lw_okq (⟨"DieLineCheckerModel", "imageOn", "(IIIZ)I"⟩, 30) := ⟨⟨by decide +kernel, by decide +kernel⟩, List.mem_of_getElem? (i := 1400) (by decide +kernel), List.mem_of_getElem? (i := 1781) (by decide +kernel), List.mem_of_getElem? (i := 1782) (by decide +kernel)⟩
def lw_privs_5 : List (MethodName × Nat) := [(⟨"DieLineCheckerModel", "fold", "(I)V"⟩, 30), (⟨"DieLineCheckerModel", "layBase", "()V"⟩, 30), (⟨"DieLineCheckerModel", "layHung", "(II)V"⟩, 30), (⟨"DieLineCheckerModel", "meet", "(IIIII)V"⟩, 30), (⟨"DieLineCheckerModel", "sideAxis", "(II)I"⟩, 30), (⟨"DieLineCheckerModel", "sideFrom", "(III)I"⟩, 30), (⟨"DieLineCheckerModel", "cornerOf", "(III)I"⟩, 30), (⟨"DieLineCheckerModel", "sideTo", "(III)I"⟩, 30), (⟨"DieLineCheckerModel", "continueOver", "(IZ)I"⟩, 30), (⟨"DieLineCheckerModel", "reachOf", "(II)I"⟩, 30), (⟨"DieLineCheckerModel", "shows", "(I)Z"⟩, 30), (⟨"DieLineCheckerModel", "turnedSize", "(IZ)I"⟩, 30), (⟨"DieLineCheckerModel", "imageSize", "(IZ)I"⟩, 30), (⟨"DieLineCheckerModel", "atEnd", "(IIIIZ)I"⟩, 30), (⟨"DieLineCheckerModel", "along", "(IIIIZ)I"⟩, 30), (⟨"DieLineCheckerModel", "imageOn", "(IIIZ)I"⟩, 30)]
theorem lw_r5 : ∀ q ∈ lw_privs_5, lw_okq q := List.forall_mem_cons.mpr ⟨lw_p64, List.forall_mem_cons.mpr ⟨lw_p65, List.forall_mem_cons.mpr ⟨lw_p66, List.forall_mem_cons.mpr ⟨lw_p67, List.forall_mem_cons.mpr ⟨lw_p68, List.forall_mem_cons.mpr ⟨lw_p69, List.forall_mem_cons.mpr ⟨lw_p70, List.forall_mem_cons.mpr ⟨lw_p71, List.forall_mem_cons.mpr ⟨lw_p72, List.forall_mem_cons.mpr ⟨lw_p73, List.forall_mem_cons.mpr ⟨lw_p74, List.forall_mem_cons.mpr ⟨lw_p75, List.forall_mem_cons.mpr ⟨lw_p76, List.forall_mem_cons.mpr ⟨lw_p77, List.forall_mem_cons.mpr ⟨lw_p78, List.forall_mem_cons.mpr ⟨lw_p79, fun _ h => absurd h List.not_mem_nil⟩⟩⟩⟩⟩⟩⟩⟩⟩⟩⟩⟩⟩⟩⟩⟩
theorem lw_p80 : lw_okq (⟨"DieLineCheckerModel", "step", "(IIIZ)I"⟩, 30) := ⟨⟨by decide +kernel, by decide +kernel⟩, List.mem_of_getElem? (i := 1400) (by decide +kernel), List.mem_of_getElem? (i := 1788) (by decide +kernel), List.mem_of_getElem? (i := 1789) (by decide +kernel)⟩
theorem lw_p81 : lw_okq (⟨"DieLineCheckerModel", "spreads", "(I)Z"⟩, 30) := ⟨⟨by decide +kernel, by decide +kernel⟩, List.mem_of_getElem? (i := 1400) (by decide +kernel), List.mem_of_getElem? (i := 1802) (by decide +kernel), List.mem_of_getElem? (i := 1803) (by decide +kernel)⟩
theorem lw_p82 : lw_okq (⟨"DieLineCheckerModel", "isFlap", "(I)Z"⟩, 30) := ⟨⟨by decide +kernel, by decide +kernel⟩, List.mem_of_getElem? (i := 1400) (by decide +kernel), List.mem_of_getElem? (i := 1806) (by decide +kernel), List.mem_of_getElem? (i := 1807) (by decide +kernel)⟩
theorem lw_p83 : lw_okq (⟨"DieLineCheckerModel", "findAll", "()V"⟩, 30) := ⟨⟨by decide +kernel, by decide +kernel⟩, List.mem_of_getElem? (i := 1400) (by decide +kernel), List.mem_of_getElem? (i := 1814) (by decide +kernel), List.mem_of_getElem? (i := 1815) (by decide +kernel)⟩
theorem lw_p84 : lw_okq (⟨"DieLineCheckerModel", "findSides", "(II)V"⟩, 30) := ⟨⟨by decide +kernel, by decide +kernel⟩, List.mem_of_getElem? (i := 1400) (by decide +kernel), List.mem_of_getElem? (i := 1818) (by decide +kernel), List.mem_of_getElem? (i := 1819) (by decide +kernel)⟩
theorem lw_p85 : lw_okq (⟨"DieLineCheckerModel", "openOf", "(III)I"⟩, 30) := ⟨⟨by decide +kernel, by decide +kernel⟩, List.mem_of_getElem? (i := 1400) (by decide +kernel), List.mem_of_getElem? (i := 1822) (by decide +kernel), List.mem_of_getElem? (i := 1823) (by decide +kernel)⟩
theorem lw_p86 : lw_okq (⟨"DieLineCheckerModel", "finds", "(IIIII)V"⟩, 30) := ⟨⟨by decide +kernel, by decide +kernel⟩, List.mem_of_getElem? (i := 1400) (by decide +kernel), List.mem_of_getElem? (i := 1826) (by decide +kernel), List.mem_of_getElem? (i := 1827) (by decide +kernel)⟩
theorem lw_p87 : lw_okq (⟨"DieLineCheckerModel", "isFolded", "(II)Z"⟩, 30) := ⟨⟨by decide +kernel, by decide +kernel⟩, List.mem_of_getElem? (i := 1400) (by decide +kernel), List.mem_of_getElem? (i := 1830) (by decide +kernel), List.mem_of_getElem? (i := 1831) (by decide +kernel)⟩
theorem lw_p88 : lw_okq (⟨"DieLineCheckerModel", "findIntrusions", "(II)V"⟩, 30) := ⟨⟨by decide +kernel, by decide +kernel⟩, List.mem_of_getElem? (i := 1400) (by decide +kernel), List.mem_of_getElem? (i := 1834) (by decide +kernel), List.mem_of_getElem? (i := 1835) (by decide +kernel)⟩
theorem lw_p89 : lw_okq (⟨"DieLineCheckerModel", "stripOf", "(II)I"⟩, 30) := ⟨⟨by decide +kernel, by decide +kernel⟩, List.mem_of_getElem? (i := 1400) (by decide +kernel), List.mem_of_getElem? (i := 1838) (by decide +kernel), List.mem_of_getElem? (i := 1839) (by decide +kernel)⟩
theorem lw_p90 : lw_okq (⟨"DieLineCheckerModel", "findInk", "(I)V"⟩, 30) := ⟨⟨by decide +kernel, by decide +kernel⟩, List.mem_of_getElem? (i := 1400) (by decide +kernel), List.mem_of_getElem? (i := 1842) (by decide +kernel), List.mem_of_getElem? (i := 1843) (by decide +kernel)⟩
theorem lw_p91 : lw_okq (⟨"DieLineCheckerModel", "covered", "(II)I"⟩, 30) := ⟨⟨by decide +kernel, by decide +kernel⟩, List.mem_of_getElem? (i := 1400) (by decide +kernel), List.mem_of_getElem? (i := 1846) (by decide +kernel), List.mem_of_getElem? (i := 1847) (by decide +kernel)⟩
theorem lw_p92 : lw_okq (⟨"DieLineCheckerModel", "doubled", "(III)I"⟩, 30) := ⟨⟨by decide +kernel, by decide +kernel⟩, List.mem_of_getElem? (i := 1400) (by decide +kernel), List.mem_of_getElem? (i := 1850) (by decide +kernel), List.mem_of_getElem? (i := 1851) (by decide +kernel)⟩
theorem lw_p93 : lw_okq (⟨"DieLineCheckerModel", "shared", "(III)I"⟩, 30) := ⟨⟨by decide +kernel, by decide +kernel⟩, List.mem_of_getElem? (i := 1400) (by decide +kernel), List.mem_of_getElem? (i := 1854) (by decide +kernel), List.mem_of_getElem? (i := 1855) (by decide +kernel)⟩
theorem lw_p94 : lw_okq (⟨"DieLineCheckerModel", "crossing", "(III)I"⟩, 30) := ⟨⟨by decide +kernel, by decide +kernel⟩, List.mem_of_getElem? (i := 1400) (by decide +kernel), List.mem_of_getElem? (i := 1858) (by decide +kernel), List.mem_of_getElem? (i := 1859) (by decide +kernel)⟩
theorem lw_p95 : lw_okq (⟨"DieLineCheckerModel", "cuts", "(III)Z"⟩, 30) := ⟨⟨by decide +kernel, by decide +kernel⟩, List.mem_of_getElem? (i := 1400) (by decide +kernel), List.mem_of_getElem? (i := 1862) (by decide +kernel), List.mem_of_getElem? (i := 1863) (by decide +kernel)⟩
def lw_privs_6 : List (MethodName × Nat) := [(⟨"DieLineCheckerModel", "step", "(IIIZ)I"⟩, 30), (⟨"DieLineCheckerModel", "spreads", "(I)Z"⟩, 30), (⟨"DieLineCheckerModel", "isFlap", "(I)Z"⟩, 30), (⟨"DieLineCheckerModel", "findAll", "()V"⟩, 30), (⟨"DieLineCheckerModel", "findSides", "(II)V"⟩, 30), (⟨"DieLineCheckerModel", "openOf", "(III)I"⟩, 30), (⟨"DieLineCheckerModel", "finds", "(IIIII)V"⟩, 30), (⟨"DieLineCheckerModel", "isFolded", "(II)Z"⟩, 30), (⟨"DieLineCheckerModel", "findIntrusions", "(II)V"⟩, 30), (⟨"DieLineCheckerModel", "stripOf", "(II)I"⟩, 30), (⟨"DieLineCheckerModel", "findInk", "(I)V"⟩, 30), (⟨"DieLineCheckerModel", "covered", "(II)I"⟩, 30), (⟨"DieLineCheckerModel", "doubled", "(III)I"⟩, 30), (⟨"DieLineCheckerModel", "shared", "(III)I"⟩, 30), (⟨"DieLineCheckerModel", "crossing", "(III)I"⟩, 30), (⟨"DieLineCheckerModel", "cuts", "(III)Z"⟩, 30)]
theorem lw_r6 : ∀ q ∈ lw_privs_6, lw_okq q := List.forall_mem_cons.mpr ⟨lw_p80, List.forall_mem_cons.mpr ⟨lw_p81, List.forall_mem_cons.mpr ⟨lw_p82, List.forall_mem_cons.mpr ⟨lw_p83, List.forall_mem_cons.mpr ⟨lw_p84, List.forall_mem_cons.mpr ⟨lw_p85, List.forall_mem_cons.mpr ⟨lw_p86, List.forall_mem_cons.mpr ⟨lw_p87, List.forall_mem_cons.mpr ⟨lw_p88, List.forall_mem_cons.mpr ⟨lw_p89, List.forall_mem_cons.mpr ⟨lw_p90, List.forall_mem_cons.mpr ⟨lw_p91, List.forall_mem_cons.mpr ⟨lw_p92, List.forall_mem_cons.mpr ⟨lw_p93, List.forall_mem_cons.mpr ⟨lw_p94, List.forall_mem_cons.mpr ⟨lw_p95, fun _ h => absurd h List.not_mem_nil⟩⟩⟩⟩⟩⟩⟩⟩⟩⟩⟩⟩⟩⟩⟩⟩
theorem lw_p96 : lw_okq (⟨"DieLineCheckerModel", "mismatch", "(I)I"⟩, 30) := ⟨⟨by decide +kernel, by decide +kernel⟩, List.mem_of_getElem? (i := 1400) (by decide +kernel), List.mem_of_getElem? (i := 1866) (by decide +kernel), List.mem_of_getElem? (i := 1867) (by decide +kernel)⟩
theorem lw_p97 : lw_okq (⟨"DieLineCheckerModel", "placed", "(I)I"⟩, 30) := ⟨⟨by decide +kernel, by decide +kernel⟩, List.mem_of_getElem? (i := 1400) (by decide +kernel), List.mem_of_getElem? (i := 1874) (by decide +kernel), List.mem_of_getElem? (i := 1875) (by decide +kernel)⟩
theorem lw_p98 : lw_okq (⟨"DieLineCheckerModel", "isAhead", "(II)Z"⟩, 30) := ⟨⟨by decide +kernel, by decide +kernel⟩, List.mem_of_getElem? (i := 1400) (by decide +kernel), List.mem_of_getElem? (i := 1878) (by decide +kernel), List.mem_of_getElem? (i := 1879) (by decide +kernel)⟩
theorem lw_p99 : lw_okq (⟨"DieLineCheckerModel", "costs", "(I)J"⟩, 30) := ⟨⟨by decide +kernel, by decide +kernel⟩, List.mem_of_getElem? (i := 1400) (by decide +kernel), List.mem_of_getElem? (i := 1886) (by decide +kernel), List.mem_of_getElem? (i := 1887) (by decide +kernel)⟩
theorem lw_p100 : lw_okq (⟨"DieLineCheckerModel", "sideX", "(II)I"⟩, 30) := ⟨⟨by decide +kernel, by decide +kernel⟩, List.mem_of_getElem? (i := 1400) (by decide +kernel), List.mem_of_getElem? (i := 1911) (by decide +kernel), List.mem_of_getElem? (i := 1912) (by decide +kernel)⟩
theorem lw_p101 : lw_okq (⟨"DieLineCheckerModel", "sideY", "(II)I"⟩, 30) := ⟨⟨by decide +kernel, by decide +kernel⟩, List.mem_of_getElem? (i := 1400) (by decide +kernel), List.mem_of_getElem? (i := 1915) (by decide +kernel), List.mem_of_getElem? (i := 1916) (by decide +kernel)⟩
theorem lw_p102 : lw_okq (⟨"DieLineCheckerModel", "isFold", "(ZII)Z"⟩, 30) := ⟨⟨by decide +kernel, by decide +kernel⟩, List.mem_of_getElem? (i := 1400) (by decide +kernel), List.mem_of_getElem? (i := 1919) (by decide +kernel), List.mem_of_getElem? (i := 1920) (by decide +kernel)⟩
theorem lw_p103 : lw_okq (⟨"DieLineCheckerModel", "isOn", "(IIZII)Z"⟩, 30) := ⟨⟨by decide +kernel, by decide +kernel⟩, List.mem_of_getElem? (i := 1400) (by decide +kernel), List.mem_of_getElem? (i := 1923) (by decide +kernel), List.mem_of_getElem? (i := 1924) (by decide +kernel)⟩
theorem lw_p104 : lw_okq (⟨"DieLineCheckerModel", "isCounted", "(IIZII)Z"⟩, 30) := ⟨⟨by decide +kernel, by decide +kernel⟩, List.mem_of_getElem? (i := 1400) (by decide +kernel), List.mem_of_getElem? (i := 1927) (by decide +kernel), List.mem_of_getElem? (i := 1928) (by decide +kernel)⟩
theorem lw_p105 : lw_okq (⟨"DieLineCheckerModel", "pitchOf", "(IIZ)I"⟩, 30) := ⟨⟨by decide +kernel, by decide +kernel⟩, List.mem_of_getElem? (i := 1400) (by decide +kernel), List.mem_of_getElem? (i := 1939) (by decide +kernel), List.mem_of_getElem? (i := 1940) (by decide +kernel)⟩
theorem lw_p106 : lw_okq (⟨"DieLineCheckerModel", "isFree", "(IIZI)Z"⟩, 30) := ⟨⟨by decide +kernel, by decide +kernel⟩, List.mem_of_getElem? (i := 1400) (by decide +kernel), List.mem_of_getElem? (i := 1943) (by decide +kernel), List.mem_of_getElem? (i := 1944) (by decide +kernel)⟩
theorem lw_p107 : lw_okq (⟨"DieLineCheckerModel", "leastOf", "(I)I"⟩, 30) := ⟨⟨by decide +kernel, by decide +kernel⟩, List.mem_of_getElem? (i := 1400) (by decide +kernel), List.mem_of_getElem? (i := 1947) (by decide +kernel), List.mem_of_getElem? (i := 1948) (by decide +kernel)⟩
theorem lw_p108 : lw_okq (⟨"DieLineCheckerModel", "greatestOf", "(I)I"⟩, 30) := ⟨⟨by decide +kernel, by decide +kernel⟩, List.mem_of_getElem? (i := 1400) (by decide +kernel), List.mem_of_getElem? (i := 1951) (by decide +kernel), List.mem_of_getElem? (i := 1952) (by decide +kernel)⟩
theorem lw_p109 : lw_okq (⟨"DieLineCheckerModel", "isNear", "(IIIII)Z"⟩, 30) := ⟨⟨by decide +kernel, by decide +kernel⟩, List.mem_of_getElem? (i := 1400) (by decide +kernel), List.mem_of_getElem? (i := 1955) (by decide +kernel), List.mem_of_getElem? (i := 1956) (by decide +kernel)⟩
theorem lw_p110 : lw_okq (⟨"DieLineCheckerModel", "isShut", "(I)Z"⟩, 30) := ⟨⟨by decide +kernel, by decide +kernel⟩, List.mem_of_getElem? (i := 1400) (by decide +kernel), List.mem_of_getElem? (i := 1994) (by decide +kernel), List.mem_of_getElem? (i := 1995) (by decide +kernel)⟩
theorem lw_p111 : lw_okq (⟨"DieLineCheckerModel", "crossingsBy", "(I)I"⟩, 30) := ⟨⟨by decide +kernel, by decide +kernel⟩, List.mem_of_getElem? (i := 1400) (by decide +kernel), List.mem_of_getElem? (i := 2008) (by decide +kernel), List.mem_of_getElem? (i := 2009) (by decide +kernel)⟩
def lw_privs_7 : List (MethodName × Nat) := [(⟨"DieLineCheckerModel", "mismatch", "(I)I"⟩, 30), (⟨"DieLineCheckerModel", "placed", "(I)I"⟩, 30), (⟨"DieLineCheckerModel", "isAhead", "(II)Z"⟩, 30), (⟨"DieLineCheckerModel", "costs", "(I)J"⟩, 30), (⟨"DieLineCheckerModel", "sideX", "(II)I"⟩, 30), (⟨"DieLineCheckerModel", "sideY", "(II)I"⟩, 30), (⟨"DieLineCheckerModel", "isFold", "(ZII)Z"⟩, 30), (⟨"DieLineCheckerModel", "isOn", "(IIZII)Z"⟩, 30), (⟨"DieLineCheckerModel", "isCounted", "(IIZII)Z"⟩, 30), (⟨"DieLineCheckerModel", "pitchOf", "(IIZ)I"⟩, 30), (⟨"DieLineCheckerModel", "isFree", "(IIZI)Z"⟩, 30), (⟨"DieLineCheckerModel", "leastOf", "(I)I"⟩, 30), (⟨"DieLineCheckerModel", "greatestOf", "(I)I"⟩, 30), (⟨"DieLineCheckerModel", "isNear", "(IIIII)Z"⟩, 30), (⟨"DieLineCheckerModel", "isShut", "(I)Z"⟩, 30), (⟨"DieLineCheckerModel", "crossingsBy", "(I)I"⟩, 30)]
theorem lw_r7 : ∀ q ∈ lw_privs_7, lw_okq q := List.forall_mem_cons.mpr ⟨lw_p96, List.forall_mem_cons.mpr ⟨lw_p97, List.forall_mem_cons.mpr ⟨lw_p98, List.forall_mem_cons.mpr ⟨lw_p99, List.forall_mem_cons.mpr ⟨lw_p100, List.forall_mem_cons.mpr ⟨lw_p101, List.forall_mem_cons.mpr ⟨lw_p102, List.forall_mem_cons.mpr ⟨lw_p103, List.forall_mem_cons.mpr ⟨lw_p104, List.forall_mem_cons.mpr ⟨lw_p105, List.forall_mem_cons.mpr ⟨lw_p106, List.forall_mem_cons.mpr ⟨lw_p107, List.forall_mem_cons.mpr ⟨lw_p108, List.forall_mem_cons.mpr ⟨lw_p109, List.forall_mem_cons.mpr ⟨lw_p110, List.forall_mem_cons.mpr ⟨lw_p111, fun _ h => absurd h List.not_mem_nil⟩⟩⟩⟩⟩⟩⟩⟩⟩⟩⟩⟩⟩⟩⟩⟩
theorem lw_p112 : lw_okq (⟨"DieLineCheckerModel", "turnedPanels", "()I"⟩, 30) := ⟨⟨by decide +kernel, by decide +kernel⟩, List.mem_of_getElem? (i := 1400) (by decide +kernel), List.mem_of_getElem? (i := 2031) (by decide +kernel), List.mem_of_getElem? (i := 2032) (by decide +kernel)⟩
theorem lw_p113 : lw_okq (⟨"DieLineCheckerModel", "flaps", "()I"⟩, 30) := ⟨⟨by decide +kernel, by decide +kernel⟩, List.mem_of_getElem? (i := 1400) (by decide +kernel), List.mem_of_getElem? (i := 2035) (by decide +kernel), List.mem_of_getElem? (i := 2036) (by decide +kernel)⟩
theorem lw_p114 : lw_okq (⟨"DieLineCheckerModel", "definedImages", "()I"⟩, 30) := ⟨⟨by decide +kernel, by decide +kernel⟩, List.mem_of_getElem? (i := 1400) (by decide +kernel), List.mem_of_getElem? (i := 2039) (by decide +kernel), List.mem_of_getElem? (i := 2040) (by decide +kernel)⟩
def lw_privs_8 : List (MethodName × Nat) := [(⟨"DieLineCheckerModel", "turnedPanels", "()I"⟩, 30), (⟨"DieLineCheckerModel", "flaps", "()I"⟩, 30), (⟨"DieLineCheckerModel", "definedImages", "()I"⟩, 30)]
theorem lw_r8 : ∀ q ∈ lw_privs_8, lw_okq q := List.forall_mem_cons.mpr ⟨lw_p112, List.forall_mem_cons.mpr ⟨lw_p113, List.forall_mem_cons.mpr ⟨lw_p114, fun _ h => absurd h List.not_mem_nil⟩⟩⟩
def lw_privs : List (MethodName × Nat) := lw_privs_1 ++ (lw_privs_2 ++ (lw_privs_3 ++ (lw_privs_4 ++ (lw_privs_5 ++ (lw_privs_6 ++ (lw_privs_7 ++ (lw_privs_8)))))))
def lw_tbl : List Cond := k2_sels lw_privs ++ tables_1
theorem lw_privs_ok : ∀ q ∈ lw_privs, lw_okq q := by
  show ∀ q ∈ lw_privs_1 ++ (lw_privs_2 ++ (lw_privs_3 ++ (lw_privs_4 ++ (lw_privs_5 ++ (lw_privs_6 ++ (lw_privs_7 ++ (lw_privs_8))))))), lw_okq q
  exact List.forall_mem_append.mpr ⟨lw_r1, List.forall_mem_append.mpr ⟨lw_r2, List.forall_mem_append.mpr ⟨lw_r3, List.forall_mem_append.mpr ⟨lw_r4, List.forall_mem_append.mpr ⟨lw_r5, List.forall_mem_append.mpr ⟨lw_r6, List.forall_mem_append.mpr ⟨lw_r7, lw_r8⟩⟩⟩⟩⟩⟩⟩
end
section
def RX0 : String := "DieLineChecker$Artwork"
def TX0 : u_T := fun k => match k with
  | 0 => ("DieLineChecker$Artwork", "orientation", "I", false)
  | 1 => ("DieLineChecker$Artwork", "px", "I", false)
  | 2 => ("DieLineChecker$Artwork", "py", "I", false)
  | 3 => ("DieLineChecker$Artwork", "onto", "I", false)
  | 4 => ("DieLineChecker$Artwork", "image", "I", false)
  | 5 => ("DieLineChecker$Artwork", "seams", "LDieLineChecker$Seams;", true)
  | 6 => ("DieLineChecker$Artwork", "folding", "LDieLineChecker$Folding;", true)
  | 7 => ("DieLineChecker$Artwork", "pointX", "[I", true)
  | 8 => ("DieLineChecker$Artwork", "pointY", "[I", true)
  | 9 => ("DieLineChecker$Artwork", "us", "[I", true)
  | _ => ("DieLineChecker$Artwork", "vs", "[I", true)
def tyX0 : Nat → FieldType := fun k => match k with
  | 0 => .int
  | 1 => .int
  | 2 => .int
  | 3 => .int
  | 4 => .int
  | 5 => .object "DieLineChecker$Seams"
  | 6 => .object "DieLineChecker$Folding"
  | 7 => .array .int
  | 8 => .array .int
  | 9 => .array .int
  | _ => .array .int
theorem nmX0 : ∀ a, a < 11 → ∀ b, b < 11 → a ≠ b → (TX0 a).2.1 ≠ (TX0 b).2.1 := by decide +kernel
theorem tyX0_ok : ∀ k, k < 11 → parseFieldDescriptor (TX0 k).2.2.1 = some (tyX0 k) := by decide +kernel
abbrev cX0_init : ByteArray := prog_2_method_1_code
def yX0_init : MethodName := ⟨RX0, "<init>", "()V"⟩
abbrev cX0_turnedA : ByteArray := prog_2_method_2_code
def yX0_turnedA : MethodName := ⟨RX0, "turnedA", "(IIIII)I"⟩
abbrev cX0_turnedB : ByteArray := prog_2_method_3_code
def yX0_turnedB : MethodName := ⟨RX0, "turnedB", "(IIIII)I"⟩
abbrev cX0_originalU : ByteArray := prog_2_method_4_code
def yX0_originalU : MethodName := ⟨RX0, "originalU", "(IIII)I"⟩
abbrev cX0_originalV : ByteArray := prog_2_method_5_code
def yX0_originalV : MethodName := ⟨RX0, "originalV", "(IIII)I"⟩
abbrev cX0_imageU : ByteArray := prog_2_method_6_code
def yX0_imageU : MethodName := ⟨RX0, "imageU", "(LDieLineChecker$Design;LDieLineChecker$Panel;II)I"⟩
abbrev cX0_imageV : ByteArray := prog_2_method_7_code
def yX0_imageV : MethodName := ⟨RX0, "imageV", "(LDieLineChecker$Design;LDieLineChecker$Panel;II)I"⟩
abbrev cX0_rightEnd : ByteArray := prog_2_method_8_code
def yX0_rightEnd : MethodName := ⟨RX0, "rightEnd", "(LDieLineChecker$Design;LDieLineChecker$Panel;)I"⟩
abbrev cX0_upperEnd : ByteArray := prog_2_method_9_code
def yX0_upperEnd : MethodName := ⟨RX0, "upperEnd", "(LDieLineChecker$Design;LDieLineChecker$Panel;)I"⟩
abbrev cX0_shows : ByteArray := prog_2_method_10_code
def yX0_shows : MethodName := ⟨RX0, "shows", "(LDieLineChecker$Design;LDieLineChecker$Panel;)Z"⟩
abbrev cX0_isSeen : ByteArray := prog_2_method_11_code
def yX0_isSeen : MethodName := ⟨RX0, "isSeen", "(LDieLineChecker$Panel;II)Z"⟩
abbrev cX0_reachAt : ByteArray := prog_2_method_12_code
def yX0_reachAt : MethodName := ⟨RX0, "reachAt", "(LDieLineChecker$Design;LDieLineChecker$Panel;I)I"⟩
abbrev cX0_takePoints : ByteArray := prog_2_method_13_code
def yX0_takePoints : MethodName := ⟨RX0, "takePoints", "(I)V"⟩
abbrev cX0_takePoint : ByteArray := prog_2_method_14_code
def yX0_takePoint : MethodName := ⟨RX0, "takePoint", "(III)V"⟩
abbrev cX0_takeCoordinates : ByteArray := prog_2_method_15_code
def yX0_takeCoordinates : MethodName := ⟨RX0, "takeCoordinates", "(LDieLineChecker$Design;LDieLineChecker$Panel;I)V"⟩
abbrev cX0_mismatch : ByteArray := prog_2_method_16_code
def yX0_mismatch : MethodName := ⟨RX0, "mismatch", "(LDieLineChecker$Design;I)I"⟩
abbrev cX0_plan : ByteArray := prog_2_method_17_code
def yX0_plan : MethodName := ⟨RX0, "plan", "(LDieLineChecker$Design;IZ)Z"⟩
abbrev cX0_agrees : ByteArray := prog_2_method_18_code
def yX0_agrees : MethodName := ⟨RX0, "agrees", "(LDieLineChecker$Design;IZ)Z"⟩
abbrev cX0_carryOut : ByteArray := prog_2_method_19_code
def yX0_carryOut : MethodName := ⟨RX0, "carryOut", "(LDieLineChecker$Design;)V"⟩
abbrev cX0_spread : ByteArray := prog_2_method_20_code
def yX0_spread : MethodName := ⟨RX0, "spread", "(LDieLineChecker$Design;I)I"⟩
abbrev cX0_spreadOnce : ByteArray := prog_2_method_21_code
def yX0_spreadOnce : MethodName := ⟨RX0, "spreadOnce", "(LDieLineChecker$Design;I)Z"⟩
def RX1 : String := "DieLineChecker$Blank"
def TX1 : u_T := fun k => match k with
  | 0 => ("DieLineChecker$Blank", "cover", "LDieLineChecker$Cover;", true)
  | _ => ("DieLineChecker$Blank", "taken", "[Z", true)
def tyX1 : Nat → FieldType := fun k => match k with
  | 0 => .object "DieLineChecker$Cover"
  | _ => .array .boolean
theorem nmX1 : ∀ a, a < 2 → ∀ b, b < 2 → a ≠ b → (TX1 a).2.1 ≠ (TX1 b).2.1 := by decide +kernel
theorem tyX1_ok : ∀ k, k < 2 → parseFieldDescriptor (TX1 k).2.2.1 = some (tyX1 k) := by decide +kernel
abbrev cX1_init : ByteArray := prog_3_method_1_code
def yX1_init : MethodName := ⟨RX1, "<init>", "()V"⟩
abbrev cX1_creases : ByteArray := prog_3_method_2_code
def yX1_creases : MethodName := ⟨RX1, "creases", "(LDieLineChecker$Design;)I"⟩
abbrev cX1_cuts : ByteArray := prog_3_method_3_code
def yX1_cuts : MethodName := ⟨RX1, "cuts", "(LDieLineChecker$Design;)I"⟩
abbrev cX1_newLine : ByteArray := prog_3_method_4_code
def yX1_newLine : MethodName := ⟨RX1, "newLine", "(LDieLineChecker$Design;II)I"⟩
abbrev cX1_lineOf : ByteArray := prog_3_method_5_code
def yX1_lineOf : MethodName := ⟨RX1, "lineOf", "(LDieLineChecker$Panel;I)I"⟩
abbrev cX1_copiesInRow : ByteArray := prog_3_method_6_code
def yX1_copiesInRow : MethodName := ⟨RX1, "copiesInRow", "(LDieLineChecker$Design;II)I"⟩
abbrev cX1_smallest : ByteArray := prog_3_method_7_code
def yX1_smallest : MethodName := ⟨RX1, "smallest", "(LDieLineChecker$Design;I)I"⟩
abbrev cX1_greatest : ByteArray := prog_3_method_8_code
def yX1_greatest : MethodName := ⟨RX1, "greatest", "(LDieLineChecker$Design;I)I"⟩
abbrev cX1_leastPitch : ByteArray := prog_3_method_9_code
def yX1_leastPitch : MethodName := ⟨RX1, "leastPitch", "(LDieLineChecker$Design;IIZ)I"⟩
abbrev cX1_take : ByteArray := prog_3_method_10_code
def yX1_take : MethodName := ⟨RX1, "take", "(II)V"⟩
abbrev cX1_isFree : ByteArray := prog_3_method_11_code
def yX1_isFree : MethodName := ⟨RX1, "isFree", "(II)Z"⟩
def RX2 : String := "DieLineChecker$Cover"
def TX2 : u_T := fun k => match k with
  | 0 => ("DieLineChecker$Cover", "size", "I", false)
  | 1 => ("DieLineChecker$Cover", "lows", "[I", true)
  | _ => ("DieLineChecker$Cover", "highs", "[I", true)
def tyX2 : Nat → FieldType := fun k => match k with
  | 0 => .int
  | 1 => .array .int
  | _ => .array .int
theorem nmX2 : ∀ a, a < 3 → ∀ b, b < 3 → a ≠ b → (TX2 a).2.1 ≠ (TX2 b).2.1 := by decide +kernel
theorem tyX2_ok : ∀ k, k < 3 → parseFieldDescriptor (TX2 k).2.2.1 = some (tyX2 k) := by decide +kernel
abbrev cX2_init : ByteArray := prog_4_method_1_code
def yX2_init : MethodName := ⟨RX2, "<init>", "()V"⟩
abbrev cX2_empty : ByteArray := prog_4_method_2_code
def yX2_empty : MethodName := ⟨RX2, "empty", "()V"⟩
abbrev cX2_add : ByteArray := prog_4_method_3_code
def yX2_add : MethodName := ⟨RX2, "add", "(II)V"⟩
abbrev cX2_uncovered : ByteArray := prog_4_method_4_code
def yX2_uncovered : MethodName := ⟨RX2, "uncovered", "(II)I"⟩
def RX3 : String := "DieLineChecker$Design"
def TX3 : u_T := fun k => match k with
  | 0 => ("DieLineChecker$Design", "imageWidth", "[I", true)
  | 1 => ("DieLineChecker$Design", "imageHeight", "[I", true)
  | 2 => ("DieLineChecker$Design", "sheetWidth", "I", false)
  | 3 => ("DieLineChecker$Design", "sheetHeight", "I", false)
  | 4 => ("DieLineChecker$Design", "panelCount", "I", false)
  | 5 => ("DieLineChecker$Design", "panels", "[LDieLineChecker$Panel;", true)
  | _ => ("DieLineChecker$Design", "nobody", "LDieLineChecker$Panel;", true)
def tyX3 : Nat → FieldType := fun k => match k with
  | 0 => .array .int
  | 1 => .array .int
  | 2 => .int
  | 3 => .int
  | 4 => .int
  | 5 => .array (.object "DieLineChecker$Panel")
  | _ => .object "DieLineChecker$Panel"
theorem nmX3 : ∀ a, a < 7 → ∀ b, b < 7 → a ≠ b → (TX3 a).2.1 ≠ (TX3 b).2.1 := by decide +kernel
theorem tyX3_ok : ∀ k, k < 7 → parseFieldDescriptor (TX3 k).2.2.1 = some (tyX3 k) := by decide +kernel
abbrev cX3_init : ByteArray := prog_5_method_1_code
def yX3_init : MethodName := ⟨RX3, "<init>", "()V"⟩
abbrev cX3_empty : ByteArray := prog_5_method_2_code
def yX3_empty : MethodName := ⟨RX3, "empty", "()V"⟩
abbrev cX3_become : ByteArray := prog_5_method_3_code
def yX3_become : MethodName := ⟨RX3, "become", "(LDieLineChecker$Design;)V"⟩
abbrev cX3_panelAt : ByteArray := prog_5_method_4_code
def yX3_panelAt : MethodName := ⟨RX3, "panelAt", "(I)LDieLineChecker$Panel;"⟩
abbrev cX3_has : ByteArray := prog_5_method_5_code
def yX3_has : MethodName := ⟨RX3, "has", "(I)Z"⟩
abbrev cX3_hangs : ByteArray := prog_5_method_6_code
def yX3_hangs : MethodName := ⟨RX3, "hangs", "(I)Z"⟩
abbrev cX3_hasImage : ByteArray := prog_5_method_7_code
def yX3_hasImage : MethodName := ⟨RX3, "hasImage", "(I)Z"⟩
abbrev cX3_imageWidthOf : ByteArray := prog_5_method_8_code
def yX3_imageWidthOf : MethodName := ⟨RX3, "imageWidthOf", "(I)I"⟩
abbrev cX3_imageHeightOf : ByteArray := prog_5_method_9_code
def yX3_imageHeightOf : MethodName := ⟨RX3, "imageHeightOf", "(I)I"⟩
abbrev cX3_sheetFault : ByteArray := prog_5_method_10_code
def yX3_sheetFault : MethodName := ⟨RX3, "sheetFault", "(II)I"⟩
abbrev cX3_changeSheet : ByteArray := prog_5_method_11_code
def yX3_changeSheet : MethodName := ⟨RX3, "changeSheet", "(II)I"⟩
abbrev cX3_baseFault : ByteArray := prog_5_method_12_code
def yX3_baseFault : MethodName := ⟨RX3, "baseFault", "(IIII)I"⟩
abbrev cX3_startBase : ByteArray := prog_5_method_13_code
def yX3_startBase : MethodName := ⟨RX3, "startBase", "(IIII)I"⟩
abbrev cX3_hangFault : ByteArray := prog_5_method_14_code
def yX3_hangFault : MethodName := ⟨RX3, "hangFault", "(IIIIII)I"⟩
abbrev cX3_hang : ByteArray := prog_5_method_15_code
def yX3_hang : MethodName := ⟨RX3, "hang", "(IIIIII)I"⟩
abbrev cX3_draft : ByteArray := prog_5_method_16_code
def yX3_draft : MethodName := ⟨RX3, "draft", "(IIIIII)V"⟩
abbrev cX3_layOut : ByteArray := prog_5_method_17_code
def yX3_layOut : MethodName := ⟨RX3, "layOut", "(LDieLineChecker$Panel;LDieLineChecker$Panel;)V"⟩
abbrev cX3_layOutAll : ByteArray := prog_5_method_18_code
def yX3_layOutAll : MethodName := ⟨RX3, "layOutAll", "()V"⟩
abbrev cX3_fits : ByteArray := prog_5_method_19_code
def yX3_fits : MethodName := ⟨RX3, "fits", "(I)Z"⟩
abbrev cX3_isValid : ByteArray := prog_5_method_20_code
def yX3_isValid : MethodName := ⟨RX3, "isValid", "()Z"⟩
abbrev cX3_dropFault : ByteArray := prog_5_method_21_code
def yX3_dropFault : MethodName := ⟨RX3, "dropFault", "()I"⟩
abbrev cX3_dropLast : ByteArray := prog_5_method_22_code
def yX3_dropLast : MethodName := ⟨RX3, "dropLast", "()I"⟩
abbrev cX3_turnFold : ByteArray := prog_5_method_23_code
def yX3_turnFold : MethodName := ⟨RX3, "turnFold", "(II)I"⟩
abbrev cX3_sizeFault : ByteArray := prog_5_method_24_code
def yX3_sizeFault : MethodName := ⟨RX3, "sizeFault", "(III)I"⟩
abbrev cX3_changeSize : ByteArray := prog_5_method_25_code
def yX3_changeSize : MethodName := ⟨RX3, "changeSize", "(III)I"⟩
abbrev cX3_flapFault : ByteArray := prog_5_method_26_code
def yX3_flapFault : MethodName := ⟨RX3, "flapFault", "(II)I"⟩
abbrev cX3_changeTarget : ByteArray := prog_5_method_27_code
def yX3_changeTarget : MethodName := ⟨RX3, "changeTarget", "(II)I"⟩
abbrev cX3_imageFault : ByteArray := prog_5_method_28_code
def yX3_imageFault : MethodName := ⟨RX3, "imageFault", "(III)I"⟩
abbrev cX3_changeImage : ByteArray := prog_5_method_29_code
def yX3_changeImage : MethodName := ⟨RX3, "changeImage", "(III)I"⟩
abbrev cX3_printFault : ByteArray := prog_5_method_30_code
def yX3_printFault : MethodName := ⟨RX3, "printFault", "(IIIII)I"⟩
abbrev cX3_print : ByteArray := prog_5_method_31_code
def yX3_print : MethodName := ⟨RX3, "print", "(IIIII)I"⟩
abbrev cX3_bareFault : ByteArray := prog_5_method_32_code
def yX3_bareFault : MethodName := ⟨RX3, "bareFault", "(I)I"⟩
abbrev cX3_wipe : ByteArray := prog_5_method_33_code
def yX3_wipe : MethodName := ⟨RX3, "wipe", "(I)I"⟩
abbrev cX3_foldedPanels : ByteArray := prog_5_method_34_code
def yX3_foldedPanels : MethodName := ⟨RX3, "foldedPanels", "()I"⟩
abbrev cX3_flaps : ByteArray := prog_5_method_35_code
def yX3_flaps : MethodName := ⟨RX3, "flaps", "()I"⟩
abbrev cX3_definedImages : ByteArray := prog_5_method_36_code
def yX3_definedImages : MethodName := ⟨RX3, "definedImages", "()I"⟩
abbrev cX3_isAllFolds : ByteArray := prog_5_method_37_code
def yX3_isAllFolds : MethodName := ⟨RX3, "isAllFolds", "(II)Z"⟩
def RX4 : String := "DieLineChecker$Findings"
def TX4 : u_T := fun k => match k with
  | 0 => ("DieLineChecker$Findings", "size", "I", false)
  | 1 => ("DieLineChecker$Findings", "sum", "J", false)
  | 2 => ("DieLineChecker$Findings", "limits", "[I", true)
  | 3 => ("DieLineChecker$Findings", "weights", "[I", true)
  | 4 => ("DieLineChecker$Findings", "artwork", "LDieLineChecker$Artwork;", true)
  | 5 => ("DieLineChecker$Findings", "seams", "LDieLineChecker$Seams;", true)
  | 6 => ("DieLineChecker$Findings", "folding", "LDieLineChecker$Folding;", true)
  | _ => ("DieLineChecker$Findings", "keys", "[J", true)
def tyX4 : Nat → FieldType := fun k => match k with
  | 0 => .int
  | 1 => .long
  | 2 => .array .int
  | 3 => .array .int
  | 4 => .object "DieLineChecker$Artwork"
  | 5 => .object "DieLineChecker$Seams"
  | 6 => .object "DieLineChecker$Folding"
  | _ => .array .long
theorem nmX4 : ∀ a, a < 8 → ∀ b, b < 8 → a ≠ b → (TX4 a).2.1 ≠ (TX4 b).2.1 := by decide +kernel
theorem tyX4_ok : ∀ k, k < 8 → parseFieldDescriptor (TX4 k).2.2.1 = some (tyX4 k) := by decide +kernel
abbrev cX4_init : ByteArray := prog_6_method_1_code
def yX4_init : MethodName := ⟨RX4, "<init>", "()V"⟩
abbrev cX4_limit : ByteArray := prog_6_method_2_code
def yX4_limit : MethodName := ⟨RX4, "limit", "(I)I"⟩
abbrev cX4_weight : ByteArray := prog_6_method_3_code
def yX4_weight : MethodName := ⟨RX4, "weight", "(I)I"⟩
abbrev cX4_collect : ByteArray := prog_6_method_4_code
def yX4_collect : MethodName := ⟨RX4, "collect", "(LDieLineChecker$Design;)V"⟩
abbrev cX4_add : ByteArray := prog_6_method_5_code
def yX4_add : MethodName := ⟨RX4, "add", "(IIIII)V"⟩
abbrev cX4_collectOpen : ByteArray := prog_6_method_6_code
def yX4_collectOpen : MethodName := ⟨RX4, "collectOpen", "(I)V"⟩
abbrev cX4_collectPairs : ByteArray := prog_6_method_7_code
def yX4_collectPairs : MethodName := ⟨RX4, "collectPairs", "(LDieLineChecker$Design;)V"⟩
abbrev cX4_collectFlap : ByteArray := prog_6_method_8_code
def yX4_collectFlap : MethodName := ⟨RX4, "collectFlap", "(LDieLineChecker$Design;I)V"⟩
abbrev cX4_inkDistance : ByteArray := prog_6_method_9_code
def yX4_inkDistance : MethodName := ⟨RX4, "inkDistance", "(LDieLineChecker$Design;LDieLineChecker$Panel;)I"⟩
abbrev cX4_collectPrint : ByteArray := prog_6_method_10_code
def yX4_collectPrint : MethodName := ⟨RX4, "collectPrint", "(LDieLineChecker$Design;I)V"⟩
abbrev cX4_beyondSheet : ByteArray := prog_6_method_11_code
def yX4_beyondSheet : MethodName := ⟨RX4, "beyondSheet", "(LDieLineChecker$Design;LDieLineChecker$Panel;II)I"⟩
abbrev cX4_collectIntrusions : ByteArray := prog_6_method_12_code
def yX4_collectIntrusions : MethodName := ⟨RX4, "collectIntrusions", "(LDieLineChecker$Design;III)V"⟩
abbrev cX4_collectBreaks : ByteArray := prog_6_method_13_code
def yX4_collectBreaks : MethodName := ⟨RX4, "collectBreaks", "(LDieLineChecker$Design;)V"⟩
abbrev cX4_anyOpen : ByteArray := prog_6_method_14_code
def yX4_anyOpen : MethodName := ⟨RX4, "anyOpen", "(LDieLineChecker$Design;)Z"⟩
abbrev cX4_isClosed : ByteArray := prog_6_method_15_code
def yX4_isClosed : MethodName := ⟨RX4, "isClosed", "(LDieLineChecker$Design;I)Z"⟩
abbrev cX4_sort : ByteArray := prog_6_method_16_code
def yX4_sort : MethodName := ⟨RX4, "sort", "()V"⟩
abbrev cX4_kindOf : ByteArray := prog_6_method_17_code
def yX4_kindOf : MethodName := ⟨RX4, "kindOf", "(J)I"⟩
abbrev cX4_panelOf : ByteArray := prog_6_method_18_code
def yX4_panelOf : MethodName := ⟨RX4, "panelOf", "(J)I"⟩
abbrev cX4_sideOf : ByteArray := prog_6_method_19_code
def yX4_sideOf : MethodName := ⟨RX4, "sideOf", "(J)I"⟩
abbrev cX4_otherOf : ByteArray := prog_6_method_20_code
def yX4_otherOf : MethodName := ⟨RX4, "otherOf", "(J)I"⟩
abbrev cX4_costOf : ByteArray := prog_6_method_21_code
def yX4_costOf : MethodName := ⟨RX4, "costOf", "(J)I"⟩
abbrev cX4_value : ByteArray := prog_6_method_22_code
def yX4_value : MethodName := ⟨RX4, "value", "(II)I"⟩
abbrev cX4_sumAbout : ByteArray := prog_6_method_23_code
def yX4_sumAbout : MethodName := ⟨RX4, "sumAbout", "(I)J"⟩
def RX5 : String := "DieLineChecker$Folding"
def TX5 : u_T := fun k => match k with
  | 0 => ("DieLineChecker$Folding", "poseCount", "I", false)
  | 1 => ("DieLineChecker$Folding", "poses", "[LDieLineChecker$Pose;", true)
  | 2 => ("DieLineChecker$Folding", "nowhere", "LDieLineChecker$Pose;", true)
  | 3 => ("DieLineChecker$Folding", "order", "[I", true)
  | _ => ("DieLineChecker$Folding", "dead", "[Z", true)
def tyX5 : Nat → FieldType := fun k => match k with
  | 0 => .int
  | 1 => .array (.object "DieLineChecker$Pose")
  | 2 => .object "DieLineChecker$Pose"
  | 3 => .array .int
  | _ => .array .boolean
theorem nmX5 : ∀ a, a < 5 → ∀ b, b < 5 → a ≠ b → (TX5 a).2.1 ≠ (TX5 b).2.1 := by decide +kernel
theorem tyX5_ok : ∀ k, k < 5 → parseFieldDescriptor (TX5 k).2.2.1 = some (tyX5 k) := by decide +kernel
abbrev cX5_init : ByteArray := prog_7_method_1_code
def yX5_init : MethodName := ⟨RX5, "<init>", "()V"⟩
abbrev cX5_poseAt : ByteArray := prog_7_method_2_code
def yX5_poseAt : MethodName := ⟨RX5, "poseAt", "(I)LDieLineChecker$Pose;"⟩
abbrev cX5_orderAt : ByteArray := prog_7_method_3_code
def yX5_orderAt : MethodName := ⟨RX5, "orderAt", "(I)I"⟩
abbrev cX5_fold : ByteArray := prog_7_method_4_code
def yX5_fold : MethodName := ⟨RX5, "fold", "(LDieLineChecker$Design;I)V"⟩
abbrev cX5_crossing : ByteArray := prog_7_method_5_code
def yX5_crossing : MethodName := ⟨RX5, "crossing", "(III)I"⟩
abbrev cX5_crossingPairs : ByteArray := prog_7_method_6_code
def yX5_crossingPairs : MethodName := ⟨RX5, "crossingPairs", "(I)I"⟩
abbrev cX5_doubled : ByteArray := prog_7_method_7_code
def yX5_doubled : MethodName := ⟨RX5, "doubled", "(III)I"⟩
abbrev cX5_covered : ByteArray := prog_7_method_8_code
def yX5_covered : MethodName := ⟨RX5, "covered", "(LDieLineChecker$Design;II)I"⟩
abbrev cX5_enclosed : ByteArray := prog_7_method_9_code
def yX5_enclosed : MethodName := ⟨RX5, "enclosed", "(LDieLineChecker$Design;)J"⟩
abbrev cX5_findOrder : ByteArray := prog_7_method_10_code
def yX5_findOrder : MethodName := ⟨RX5, "findOrder", "(LDieLineChecker$Design;I)I"⟩
abbrev cX5_nextFold : ByteArray := prog_7_method_11_code
def yX5_nextFold : MethodName := ⟨RX5, "nextFold", "(LDieLineChecker$Design;III)I"⟩
def RX6 : String := "DieLineChecker$History"
def TX6 : u_T := fun k => match k with
  | 0 => ("DieLineChecker$History", "kept", "I", false)
  | 1 => ("DieLineChecker$History", "oldest", "I", false)
  | 2 => ("DieLineChecker$History", "designs", "[LDieLineChecker$Design;", true)
  | 3 => ("DieLineChecker$History", "keptLimits", "[[I", true)
  | _ => ("DieLineChecker$History", "keptWeights", "[[I", true)
def tyX6 : Nat → FieldType := fun k => match k with
  | 0 => .int
  | 1 => .int
  | 2 => .array (.object "DieLineChecker$Design")
  | 3 => .array (.array .int)
  | _ => .array (.array .int)
theorem nmX6 : ∀ a, a < 5 → ∀ b, b < 5 → a ≠ b → (TX6 a).2.1 ≠ (TX6 b).2.1 := by decide +kernel
theorem tyX6_ok : ∀ k, k < 5 → parseFieldDescriptor (TX6 k).2.2.1 = some (tyX6 k) := by decide +kernel
abbrev cX6_init : ByteArray := prog_8_method_1_code
def yX6_init : MethodName := ⟨RX6, "<init>", "()V"⟩
abbrev cX6_forgetAll : ByteArray := prog_8_method_2_code
def yX6_forgetAll : MethodName := ⟨RX6, "forgetAll", "()V"⟩
abbrev cX6_remember : ByteArray := prog_8_method_3_code
def yX6_remember : MethodName := ⟨RX6, "remember", "(LDieLineChecker$Design;[I[I)V"⟩
abbrev cX6_recall : ByteArray := prog_8_method_4_code
def yX6_recall : MethodName := ⟨RX6, "recall", "(LDieLineChecker$Design;[I[I)V"⟩
abbrev cX6_copy : ByteArray := prog_8_method_5_code
def yX6_copy : MethodName := ⟨RX6, "copy", "([I[I)V"⟩
def RX7 : String := "DieLineChecker$Panel"
def TX7 : u_T := fun k => match k with
  | 0 => ("DieLineChecker$Panel", "parent", "I", false)
  | 1 => ("DieLineChecker$Panel", "side", "I", false)
  | 2 => ("DieLineChecker$Panel", "offset", "I", false)
  | 3 => ("DieLineChecker$Panel", "length", "I", false)
  | 4 => ("DieLineChecker$Panel", "depth", "I", false)
  | 5 => ("DieLineChecker$Panel", "angle", "I", false)
  | 6 => ("DieLineChecker$Panel", "target", "I", false)
  | 7 => ("DieLineChecker$Panel", "image", "I", false)
  | 8 => ("DieLineChecker$Panel", "orientation", "I", false)
  | 9 => ("DieLineChecker$Panel", "px", "I", false)
  | 10 => ("DieLineChecker$Panel", "py", "I", false)
  | 11 => ("DieLineChecker$Panel", "x", "I", false)
  | 12 => ("DieLineChecker$Panel", "y", "I", false)
  | 13 => ("DieLineChecker$Panel", "width", "I", false)
  | _ => ("DieLineChecker$Panel", "height", "I", false)
def tyX7 : Nat → FieldType := fun k => match k with
  | 0 => .int
  | 1 => .int
  | 2 => .int
  | 3 => .int
  | 4 => .int
  | 5 => .int
  | 6 => .int
  | 7 => .int
  | 8 => .int
  | 9 => .int
  | 10 => .int
  | 11 => .int
  | 12 => .int
  | 13 => .int
  | _ => .int
theorem nmX7 : ∀ a, a < 15 → ∀ b, b < 15 → a ≠ b → (TX7 a).2.1 ≠ (TX7 b).2.1 := by decide +kernel
theorem tyX7_ok : ∀ k, k < 15 → parseFieldDescriptor (TX7 k).2.2.1 = some (tyX7 k) := by decide +kernel
abbrev cX7_init : ByteArray := prog_9_method_1_code
def yX7_init : MethodName := ⟨RX7, "<init>", "()V"⟩
abbrev cX7_become : ByteArray := prog_9_method_2_code
def yX7_become : MethodName := ⟨RX7, "become", "(LDieLineChecker$Panel;)V"⟩
abbrev cX7_makePlain : ByteArray := prog_9_method_3_code
def yX7_makePlain : MethodName := ⟨RX7, "makePlain", "()V"⟩
abbrev cX7_isFlap : ByteArray := prog_9_method_4_code
def yX7_isFlap : MethodName := ⟨RX7, "isFlap", "()Z"⟩
abbrev cX7_nearSide : ByteArray := prog_9_method_5_code
def yX7_nearSide : MethodName := ⟨RX7, "nearSide", "()I"⟩
abbrev cX7_hangsOn : ByteArray := prog_9_method_6_code
def yX7_hangsOn : MethodName := ⟨RX7, "hangsOn", "(II)Z"⟩
abbrev cX7_sideLength : ByteArray := prog_9_method_7_code
def yX7_sideLength : MethodName := ⟨RX7, "sideLength", "(I)I"⟩
abbrev cX7_lowOn : ByteArray := prog_9_method_8_code
def yX7_lowOn : MethodName := ⟨RX7, "lowOn", "(I)I"⟩
abbrev cX7_highOn : ByteArray := prog_9_method_9_code
def yX7_highOn : MethodName := ⟨RX7, "highOn", "(I)I"⟩
abbrev cX7_overlaps : ByteArray := prog_9_method_10_code
def yX7_overlaps : MethodName := ⟨RX7, "overlaps", "(LDieLineChecker$Panel;)Z"⟩
def RX8 : String := "DieLineChecker$Pose"
def TX8 : u_T := fun k => match k with
  | 0 => ("DieLineChecker$Pose", "normal", "I", false)
  | 1 => ("DieLineChecker$Pose", "low", "[I", true)
  | 2 => ("DieLineChecker$Pose", "high", "[I", true)
  | 3 => ("DieLineChecker$Pose", "sideAxis", "[I", true)
  | 4 => ("DieLineChecker$Pose", "sideLow", "[I", true)
  | 5 => ("DieLineChecker$Pose", "sideHigh", "[I", true)
  | 6 => ("DieLineChecker$Pose", "sideNext", "[I", true)
  | 7 => ("DieLineChecker$Pose", "sideLast", "[I", true)
  | 8 => ("DieLineChecker$Pose", "u", "I", false)
  | 9 => ("DieLineChecker$Pose", "v", "I", false)
  | 10 => ("DieLineChecker$Pose", "width", "I", false)
  | 11 => ("DieLineChecker$Pose", "height", "I", false)
  | 12 => ("DieLineChecker$Pose", "spot", "[I", true)
  | _ => ("DieLineChecker$Pose", "sideBegin", "[I", true)
def tyX8 : Nat → FieldType := fun k => match k with
  | 0 => .int
  | 1 => .array .int
  | 2 => .array .int
  | 3 => .array .int
  | 4 => .array .int
  | 5 => .array .int
  | 6 => .array .int
  | 7 => .array .int
  | 8 => .int
  | 9 => .int
  | 10 => .int
  | 11 => .int
  | 12 => .array .int
  | _ => .array .int
theorem nmX8 : ∀ a, a < 14 → ∀ b, b < 14 → a ≠ b → (TX8 a).2.1 ≠ (TX8 b).2.1 := by decide +kernel
theorem tyX8_ok : ∀ k, k < 14 → parseFieldDescriptor (TX8 k).2.2.1 = some (tyX8 k) := by decide +kernel
abbrev cX8_init : ByteArray := prog_10_method_1_code
def yX8_init : MethodName := ⟨RX8, "<init>", "()V"⟩
abbrev cX8_layFlat : ByteArray := prog_10_method_2_code
def yX8_layFlat : MethodName := ⟨RX8, "layFlat", "(LDieLineChecker$Panel;)V"⟩
abbrev cX8_hangOn : ByteArray := prog_10_method_3_code
def yX8_hangOn : MethodName := ⟨RX8, "hangOn", "(LDieLineChecker$Pose;LDieLineChecker$Panel;I)V"⟩
abbrev cX8_outward : ByteArray := prog_10_method_4_code
def yX8_outward : MethodName := ⟨RX8, "outward", "(I)I"⟩
abbrev cX8_part : ByteArray := prog_10_method_5_code
def yX8_part : MethodName := ⟨RX8, "part", "(II)I"⟩
abbrev cX8_cornerAt : ByteArray := prog_10_method_6_code
def yX8_cornerAt : MethodName := ⟨RX8, "cornerAt", "(II)I"⟩
abbrev cX8_measure : ByteArray := prog_10_method_7_code
def yX8_measure : MethodName := ⟨RX8, "measure", "()V"⟩
abbrev cX8_pointX : ByteArray := prog_10_method_8_code
def yX8_pointX : MethodName := ⟨RX8, "pointX", "(II)I"⟩
abbrev cX8_pointY : ByteArray := prog_10_method_9_code
def yX8_pointY : MethodName := ⟨RX8, "pointY", "(II)I"⟩
abbrev cX8_lowOn : ByteArray := prog_10_method_10_code
def yX8_lowOn : MethodName := ⟨RX8, "lowOn", "(I)I"⟩
abbrev cX8_highOn : ByteArray := prog_10_method_11_code
def yX8_highOn : MethodName := ⟨RX8, "highOn", "(I)I"⟩
abbrev cX8_commonOn : ByteArray := prog_10_method_12_code
def yX8_commonOn : MethodName := ⟨RX8, "commonOn", "(ILDieLineChecker$Pose;)I"⟩
abbrev cX8_isCutBy : ByteArray := prog_10_method_13_code
def yX8_isCutBy : MethodName := ⟨RX8, "isCutBy", "(LDieLineChecker$Pose;I)Z"⟩
def RX9 : String := "DieLineChecker$Reader"
def TX9 : u_T := fun k => match k with
  | 0 => ("DieLineChecker$Reader", "draft", "LDieLineChecker$Design;", true)
  | 1 => ("DieLineChecker$Reader", "fault", "I", false)
  | 2 => ("DieLineChecker$Reader", "faultAt", "I", false)
  | 3 => ("DieLineChecker$Reader", "items", "I", false)
  | 4 => ("DieLineChecker$Reader", "item", "I", false)
  | 5 => ("DieLineChecker$Reader", "got", "I", false)
  | 6 => ("DieLineChecker$Reader", "complete", "Z", false)
  | _ => ("DieLineChecker$Reader", "numbers", "[I", true)
def tyX9 : Nat → FieldType := fun k => match k with
  | 0 => .object "DieLineChecker$Design"
  | 1 => .int
  | 2 => .int
  | 3 => .int
  | 4 => .int
  | 5 => .int
  | 6 => .boolean
  | _ => .array .int
theorem nmX9 : ∀ a, a < 8 → ∀ b, b < 8 → a ≠ b → (TX9 a).2.1 ≠ (TX9 b).2.1 := by decide +kernel
theorem tyX9_ok : ∀ k, k < 8 → parseFieldDescriptor (TX9 k).2.2.1 = some (tyX9 k) := by decide +kernel
abbrev cX9_init : ByteArray := prog_11_method_1_code
def yX9_init : MethodName := ⟨RX9, "<init>", "()V"⟩
abbrev cX9_read : ByteArray := prog_11_method_2_code
def yX9_read : MethodName := ⟨RX9, "read", "([II)I"⟩
abbrev cX9_fail : ByteArray := prog_11_method_3_code
def yX9_fail : MethodName := ⟨RX9, "fail", "(II)V"⟩
abbrev cX9_takeByte : ByteArray := prog_11_method_4_code
def yX9_takeByte : MethodName := ⟨RX9, "takeByte", "([III)V"⟩
abbrev cX9_takeNumber : ByteArray := prog_11_method_5_code
def yX9_takeNumber : MethodName := ⟨RX9, "takeNumber", "([III)V"⟩
abbrev cX9_beginItem : ByteArray := prog_11_method_6_code
def yX9_beginItem : MethodName := ⟨RX9, "beginItem", "(II)V"⟩
abbrev cX9_endItem : ByteArray := prog_11_method_7_code
def yX9_endItem : MethodName := ⟨RX9, "endItem", "(I)V"⟩
abbrev cX9_isDigit : ByteArray := prog_11_method_8_code
def yX9_isDigit : MethodName := ⟨RX9, "isDigit", "(I)Z"⟩
abbrev cX9_numbersOf : ByteArray := prog_11_method_9_code
def yX9_numbersOf : MethodName := ⟨RX9, "numbersOf", "(I)I"⟩
abbrev cX9_carryOut : ByteArray := prog_11_method_10_code
def yX9_carryOut : MethodName := ⟨RX9, "carryOut", "()Z"⟩
abbrev cX9_hangPanel : ByteArray := prog_11_method_11_code
def yX9_hangPanel : MethodName := ⟨RX9, "hangPanel", "()Z"⟩
abbrev cX9_glue : ByteArray := prog_11_method_12_code
def yX9_glue : MethodName := ⟨RX9, "glue", "()Z"⟩
abbrev cX9_printImage : ByteArray := prog_11_method_13_code
def yX9_printImage : MethodName := ⟨RX9, "printImage", "()Z"⟩
def RX10 : String := "DieLineChecker$Seams"
def TX10 : u_T := fun k => match k with
  | 0 => ("DieLineChecker$Seams", "size", "I", false)
  | 1 => ("DieLineChecker$Seams", "folding", "LDieLineChecker$Folding;", true)
  | 2 => ("DieLineChecker$Seams", "tolerance", "I", false)
  | 3 => ("DieLineChecker$Seams", "sideP", "[I", true)
  | 4 => ("DieLineChecker$Seams", "sideQ", "[I", true)
  | 5 => ("DieLineChecker$Seams", "lows", "[I", true)
  | 6 => ("DieLineChecker$Seams", "highs", "[I", true)
  | 7 => ("DieLineChecker$Seams", "gaps", "[I", true)
  | _ => ("DieLineChecker$Seams", "cover", "LDieLineChecker$Cover;", true)
def tyX10 : Nat → FieldType := fun k => match k with
  | 0 => .int
  | 1 => .object "DieLineChecker$Folding"
  | 2 => .int
  | 3 => .array .int
  | 4 => .array .int
  | 5 => .array .int
  | 6 => .array .int
  | 7 => .array .int
  | _ => .object "DieLineChecker$Cover"
theorem nmX10 : ∀ a, a < 9 → ∀ b, b < 9 → a ≠ b → (TX10 a).2.1 ≠ (TX10 b).2.1 := by decide +kernel
theorem tyX10_ok : ∀ k, k < 9 → parseFieldDescriptor (TX10 k).2.2.1 = some (tyX10 k) := by decide +kernel
abbrev cX10_init : ByteArray := prog_12_method_1_code
def yX10_init : MethodName := ⟨RX10, "<init>", "()V"⟩
abbrev cX10_find : ByteArray := prog_12_method_2_code
def yX10_find : MethodName := ⟨RX10, "find", "(I)V"⟩
abbrev cX10_joinSide : ByteArray := prog_12_method_3_code
def yX10_joinSide : MethodName := ⟨RX10, "joinSide", "(III)V"⟩
abbrev cX10_has : ByteArray := prog_12_method_4_code
def yX10_has : MethodName := ⟨RX10, "has", "(I)Z"⟩
abbrev cX10_panelP : ByteArray := prog_12_method_5_code
def yX10_panelP : MethodName := ⟨RX10, "panelP", "(I)I"⟩
abbrev cX10_panelQ : ByteArray := prog_12_method_6_code
def yX10_panelQ : MethodName := ⟨RX10, "panelQ", "(I)I"⟩
abbrev cX10_sideOfP : ByteArray := prog_12_method_7_code
def yX10_sideOfP : MethodName := ⟨RX10, "sideOfP", "(I)I"⟩
abbrev cX10_sideOfQ : ByteArray := prog_12_method_8_code
def yX10_sideOfQ : MethodName := ⟨RX10, "sideOfQ", "(I)I"⟩
abbrev cX10_lowOf : ByteArray := prog_12_method_9_code
def yX10_lowOf : MethodName := ⟨RX10, "lowOf", "(I)I"⟩
abbrev cX10_highOf : ByteArray := prog_12_method_10_code
def yX10_highOf : MethodName := ⟨RX10, "highOf", "(I)I"⟩
abbrev cX10_value : ByteArray := prog_12_method_11_code
def yX10_value : MethodName := ⟨RX10, "value", "(LDieLineChecker$Design;II)I"⟩
abbrev cX10_isFold : ByteArray := prog_12_method_12_code
def yX10_isFold : MethodName := ⟨RX10, "isFold", "(LDieLineChecker$Design;I)Z"⟩
abbrev cX10_open : ByteArray := prog_12_method_13_code
def yX10_open : MethodName := ⟨RX10, "open", "(II)I"⟩
def RX11 : String := "DieLineChecker"
def TX11 : u_T := fun k => match k with
  | 0 => ("DieLineChecker", "design", "LDieLineChecker$Design;", true)
  | 1 => ("DieLineChecker", "trial", "LDieLineChecker$Design;", true)
  | 2 => ("DieLineChecker", "slots", "[LDieLineChecker$Design;", true)
  | 3 => ("DieLineChecker", "slotUsed", "[Z", true)
  | 4 => ("DieLineChecker", "history", "LDieLineChecker$History;", true)
  | 5 => ("DieLineChecker", "text", "[I", true)
  | 6 => ("DieLineChecker", "reader", "LDieLineChecker$Reader;", true)
  | 7 => ("DieLineChecker", "blank", "LDieLineChecker$Blank;", true)
  | 8 => ("DieLineChecker", "findings", "LDieLineChecker$Findings;", true)
  | 9 => ("DieLineChecker", "artwork", "LDieLineChecker$Artwork;", true)
  | 10 => ("DieLineChecker", "seams", "LDieLineChecker$Seams;", true)
  | 11 => ("DieLineChecker", "folding", "LDieLineChecker$Folding;", true)
  | 12 => ("DieLineChecker", "limits", "[I", true)
  | 13 => ("DieLineChecker", "weights", "[I", true)
  | 14 => ("DieLineChecker", "textLength", "I", false)
  | _ => ("DieLineChecker", "latestFault", "I", false)
def tyX11 : Nat → FieldType := fun k => match k with
  | 0 => .object "DieLineChecker$Design"
  | 1 => .object "DieLineChecker$Design"
  | 2 => .array (.object "DieLineChecker$Design")
  | 3 => .array .boolean
  | 4 => .object "DieLineChecker$History"
  | 5 => .array .int
  | 6 => .object "DieLineChecker$Reader"
  | 7 => .object "DieLineChecker$Blank"
  | 8 => .object "DieLineChecker$Findings"
  | 9 => .object "DieLineChecker$Artwork"
  | 10 => .object "DieLineChecker$Seams"
  | 11 => .object "DieLineChecker$Folding"
  | 12 => .array .int
  | 13 => .array .int
  | 14 => .int
  | _ => .int
theorem nmX11 : ∀ a, a < 16 → ∀ b, b < 16 → a ≠ b → (TX11 a).2.1 ≠ (TX11 b).2.1 := by decide +kernel
theorem tyX11_ok : ∀ k, k < 16 → parseFieldDescriptor (TX11 k).2.2.1 = some (tyX11 k) := by decide +kernel
abbrev cX11_init : ByteArray := prog_1_method_1_code
def yX11_init : MethodName := ⟨RX11, "<init>", "()V"⟩
abbrev cX11_type : ByteArray := prog_1_method_2_code
def yX11_type : MethodName := ⟨RX11, "type", "(I)I"⟩
abbrev cX11_clearText : ByteArray := prog_1_method_3_code
def yX11_clearText : MethodName := ⟨RX11, "clearText", "()I"⟩
abbrev cX11_load : ByteArray := prog_1_method_4_code
def yX11_load : MethodName := ⟨RX11, "load", "()I"⟩
abbrev cX11_faultKind : ByteArray := prog_1_method_5_code
def yX11_faultKind : MethodName := ⟨RX11, "faultKind", "()I"⟩
abbrev cX11_setSheet : ByteArray := prog_1_method_6_code
def yX11_setSheet : MethodName := ⟨RX11, "setSheet", "(II)I"⟩
abbrev cX11_setBase : ByteArray := prog_1_method_7_code
def yX11_setBase : MethodName := ⟨RX11, "setBase", "(IIII)I"⟩
abbrev cX11_addPanel : ByteArray := prog_1_method_8_code
def yX11_addPanel : MethodName := ⟨RX11, "addPanel", "(IIIIII)I"⟩
abbrev cX11_removeLast : ByteArray := prog_1_method_9_code
def yX11_removeLast : MethodName := ⟨RX11, "removeLast", "()I"⟩
abbrev cX11_setAngle : ByteArray := prog_1_method_10_code
def yX11_setAngle : MethodName := ⟨RX11, "setAngle", "(II)I"⟩
abbrev cX11_setSize : ByteArray := prog_1_method_11_code
def yX11_setSize : MethodName := ⟨RX11, "setSize", "(III)I"⟩
abbrev cX11_setFlap : ByteArray := prog_1_method_12_code
def yX11_setFlap : MethodName := ⟨RX11, "setFlap", "(II)I"⟩
abbrev cX11_defineImage : ByteArray := prog_1_method_13_code
def yX11_defineImage : MethodName := ⟨RX11, "defineImage", "(III)I"⟩
abbrev cX11_place : ByteArray := prog_1_method_14_code
def yX11_place : MethodName := ⟨RX11, "place", "(IIIII)I"⟩
abbrev cX11_clearImage : ByteArray := prog_1_method_15_code
def yX11_clearImage : MethodName := ⟨RX11, "clearImage", "(I)I"⟩
abbrev cX11_continueImage : ByteArray := prog_1_method_16_code
def yX11_continueImage : MethodName := ⟨RX11, "continueImage", "(IZ)I"⟩
abbrev cX11_spreadImage : ByteArray := prog_1_method_17_code
def yX11_spreadImage : MethodName := ⟨RX11, "spreadImage", "(I)I"⟩
abbrev cX11_setLimit : ByteArray := prog_1_method_18_code
def yX11_setLimit : MethodName := ⟨RX11, "setLimit", "(II)I"⟩
abbrev cX11_setWeight : ByteArray := prog_1_method_19_code
def yX11_setWeight : MethodName := ⟨RX11, "setWeight", "(II)I"⟩
abbrev cX11_undo : ByteArray := prog_1_method_20_code
def yX11_undo : MethodName := ⟨RX11, "undo", "()I"⟩
abbrev cX11_save : ByteArray := prog_1_method_21_code
def yX11_save : MethodName := ⟨RX11, "save", "(I)I"⟩
abbrev cX11_restore : ByteArray := prog_1_method_22_code
def yX11_restore : MethodName := ⟨RX11, "restore", "(I)I"⟩
abbrev cX11_flat : ByteArray := prog_1_method_23_code
def yX11_flat : MethodName := ⟨RX11, "flat", "(II)I"⟩
abbrev cX11_cutLength : ByteArray := prog_1_method_24_code
def yX11_cutLength : MethodName := ⟨RX11, "cutLength", "()I"⟩
abbrev cX11_creaseLength : ByteArray := prog_1_method_25_code
def yX11_creaseLength : MethodName := ⟨RX11, "creaseLength", "()I"⟩
abbrev cX11_pitch : ByteArray := prog_1_method_26_code
def yX11_pitch : MethodName := ⟨RX11, "pitch", "(IIZ)I"⟩
abbrev cX11_rowCount : ByteArray := prog_1_method_27_code
def yX11_rowCount : MethodName := ⟨RX11, "rowCount", "(II)I"⟩
abbrev cX11_corner : ByteArray := prog_1_method_28_code
def yX11_corner : MethodName := ⟨RX11, "corner", "(III)I"⟩
abbrev cX11_facing : ByteArray := prog_1_method_29_code
def yX11_facing : MethodName := ⟨RX11, "facing", "(I)I"⟩
abbrev cX11_openLength : ByteArray := prog_1_method_30_code
def yX11_openLength : MethodName := ⟨RX11, "openLength", "(II)I"⟩
abbrev cX11_seamCount : ByteArray := prog_1_method_31_code
def yX11_seamCount : MethodName := ⟨RX11, "seamCount", "()I"⟩
abbrev cX11_seam : ByteArray := prog_1_method_32_code
def yX11_seam : MethodName := ⟨RX11, "seam", "(II)I"⟩
abbrev cX11_coverage : ByteArray := prog_1_method_33_code
def yX11_coverage : MethodName := ⟨RX11, "coverage", "(I)I"⟩
abbrev cX11_volume : ByteArray := prog_1_method_34_code
def yX11_volume : MethodName := ⟨RX11, "volume", "()J"⟩
abbrev cX11_leastTolerance : ByteArray := prog_1_method_35_code
def yX11_leastTolerance : MethodName := ⟨RX11, "leastTolerance", "()I"⟩
abbrev cX11_crossings : ByteArray := prog_1_method_36_code
def yX11_crossings : MethodName := ⟨RX11, "crossings", "(I)I"⟩
abbrev cX11_foldStep : ByteArray := prog_1_method_37_code
def yX11_foldStep : MethodName := ⟨RX11, "foldStep", "(I)I"⟩
abbrev cX11_imageAt : ByteArray := prog_1_method_38_code
def yX11_imageAt : MethodName := ⟨RX11, "imageAt", "(IIII)I"⟩
abbrev cX11_reach : ByteArray := prog_1_method_39_code
def yX11_reach : MethodName := ⟨RX11, "reach", "(II)I"⟩
abbrev cX11_findingCount : ByteArray := prog_1_method_40_code
def yX11_findingCount : MethodName := ⟨RX11, "findingCount", "()I"⟩
abbrev cX11_finding : ByteArray := prog_1_method_41_code
def yX11_finding : MethodName := ⟨RX11, "finding", "(II)I"⟩
abbrev cX11_totalCost : ByteArray := prog_1_method_42_code
def yX11_totalCost : MethodName := ⟨RX11, "totalCost", "()J"⟩
abbrev cX11_panelCost : ByteArray := prog_1_method_43_code
def yX11_panelCost : MethodName := ⟨RX11, "panelCost", "(I)J"⟩
abbrev cX11_bestDepth : ByteArray := prog_1_method_44_code
def yX11_bestDepth : MethodName := ⟨RX11, "bestDepth", "(I)I"⟩
abbrev cX11_bestAngle : ByteArray := prog_1_method_45_code
def yX11_bestAngle : MethodName := ⟨RX11, "bestAngle", "(I)I"⟩
abbrev cX11_count : ByteArray := prog_1_method_46_code
def yX11_count : MethodName := ⟨RX11, "count", "(I)I"⟩
abbrev cX11_findSeams : ByteArray := prog_1_method_47_code
def yX11_findSeams : MethodName := ⟨RX11, "findSeams", "()V"⟩
abbrev cX11_pitchFault : ByteArray := prog_1_method_48_code
def yX11_pitchFault : MethodName := ⟨RX11, "pitchFault", "(II)I"⟩
abbrev cX11_isAngle : ByteArray := prog_1_method_49_code
def yX11_isAngle : MethodName := ⟨RX11, "isAngle", "(I)Z"⟩
abbrev cX11_isPosition : ByteArray := prog_1_method_50_code
def yX11_isPosition : MethodName := ⟨RX11, "isPosition", "(I)Z"⟩
abbrev cX11_isLength : ByteArray := prog_1_method_51_code
def yX11_isLength : MethodName := ⟨RX11, "isLength", "(I)Z"⟩
abbrev cX11_isOffset : ByteArray := prog_1_method_52_code
def yX11_isOffset : MethodName := ⟨RX11, "isOffset", "(I)Z"⟩
abbrev cX11_common : ByteArray := prog_1_method_53_code
def yX11_common : MethodName := ⟨RX11, "common", "(IIII)I"⟩
def RX12 : String := "DieLineCheckerModel"
def TX12 : u_T := fun k => match k with
  | 0 => ("DieLineCheckerModel", "st", "[I", true)
  | 1 => ("DieLineCheckerModel", "before", "[I", true)
  | 2 => ("DieLineCheckerModel", "failed", "Z", false)
  | 3 => ("DieLineCheckerModel", "backs", "[I", true)
  | 4 => ("DieLineCheckerModel", "backMany", "I", false)
  | 5 => ("DieLineCheckerModel", "kept", "[I", true)
  | 6 => ("DieLineCheckerModel", "isKept", "[Z", true)
  | 7 => ("DieLineCheckerModel", "fx", "[I", true)
  | 8 => ("DieLineCheckerModel", "fy", "[I", true)
  | 9 => ("DieLineCheckerModel", "fw", "[I", true)
  | 10 => ("DieLineCheckerModel", "fh", "[I", true)
  | 11 => ("DieLineCheckerModel", "text", "[I", true)
  | 12 => ("DieLineCheckerModel", "letters", "I", false)
  | 13 => ("DieLineCheckerModel", "fault", "I", false)
  | 14 => ("DieLineCheckerModel", "at", "I", false)
  | 15 => ("DieLineCheckerModel", "numbers", "[I", true)
  | 16 => ("DieLineCheckerModel", "whole", "[I", true)
  | 17 => ("DieLineCheckerModel", "org", "[I", true)
  | 18 => ("DieLineCheckerModel", "uu", "[I", true)
  | 19 => ("DieLineCheckerModel", "vv", "[I", true)
  | 20 => ("DieLineCheckerModel", "nn", "[I", true)
  | 21 => ("DieLineCheckerModel", "lo", "[I", true)
  | 22 => ("DieLineCheckerModel", "hi", "[I", true)
  | 23 => ("DieLineCheckerModel", "upright", "[I", true)
  | 24 => ("DieLineCheckerModel", "seams", "[I", true)
  | 25 => ("DieLineCheckerModel", "seamMany", "I", false)
  | 26 => ("DieLineCheckerModel", "found", "[I", true)
  | 27 => ("DieLineCheckerModel", "foundMany", "I", false)
  | 28 => ("DieLineCheckerModel", "strip", "[I", true)
  | _ => ("DieLineCheckerModel", "leads", "[Z", true)
def tyX12 : Nat → FieldType := fun k => match k with
  | 0 => .array .int
  | 1 => .array .int
  | 2 => .boolean
  | 3 => .array .int
  | 4 => .int
  | 5 => .array .int
  | 6 => .array .boolean
  | 7 => .array .int
  | 8 => .array .int
  | 9 => .array .int
  | 10 => .array .int
  | 11 => .array .int
  | 12 => .int
  | 13 => .int
  | 14 => .int
  | 15 => .array .int
  | 16 => .array .int
  | 17 => .array .int
  | 18 => .array .int
  | 19 => .array .int
  | 20 => .array .int
  | 21 => .array .int
  | 22 => .array .int
  | 23 => .array .int
  | 24 => .array .int
  | 25 => .int
  | 26 => .array .int
  | 27 => .int
  | 28 => .array .int
  | _ => .array .boolean
theorem nmX12 : ∀ a, a < 30 → ∀ b, b < 30 → a ≠ b → (TX12 a).2.1 ≠ (TX12 b).2.1 := by decide +kernel
theorem tyX12_ok : ∀ k, k < 30 → parseFieldDescriptor (TX12 k).2.2.1 = some (tyX12 k) := by decide +kernel
abbrev cX12_init : ByteArray := prog_14_method_1_code
def yX12_init : MethodName := ⟨RX12, "<init>", "()V"⟩
abbrev cX12_in : ByteArray := prog_14_method_3_code
def yX12_in : MethodName := ⟨RX12, "in", "(III)Z"⟩
abbrev cX12_least : ByteArray := prog_14_method_4_code
def yX12_least : MethodName := ⟨RX12, "least", "(II)I"⟩
abbrev cX12_most : ByteArray := prog_14_method_5_code
def yX12_most : MethodName := ⟨RX12, "most", "(II)I"⟩
abbrev cX12_amount : ByteArray := prog_14_method_6_code
def yX12_amount : MethodName := ⟨RX12, "amount", "(I)I"⟩
abbrev cX12_bits : ByteArray := prog_14_method_7_code
def yX12_bits : MethodName := ⟨RX12, "bits", "(I)I"⟩
abbrev cX12_clearDesign : ByteArray := prog_14_method_8_code
def yX12_clearDesign : MethodName := ⟨RX12, "clearDesign", "()V"⟩
abbrev cX12_many : ByteArray := prog_14_method_9_code
def yX12_many : MethodName := ⟨RX12, "many", "()I"⟩
abbrev cX12_of : ByteArray := prog_14_method_10_code
def yX12_of : MethodName := ⟨RX12, "of", "(II)I"⟩
abbrev cX12_put : ByteArray := prog_14_method_11_code
def yX12_put : MethodName := ⟨RX12, "put", "(III)V"⟩
abbrev cX12_isPanel : ByteArray := prog_14_method_12_code
def yX12_isPanel : MethodName := ⟨RX12, "isPanel", "(I)Z"⟩
abbrev cX12_isHung : ByteArray := prog_14_method_13_code
def yX12_isHung : MethodName := ⟨RX12, "isHung", "(I)Z"⟩
abbrev cX12_limitOf : ByteArray := prog_14_method_14_code
def yX12_limitOf : MethodName := ⟨RX12, "limitOf", "(I)I"⟩
abbrev cX12_isFlap : ByteArray := prog_14_method_15_code
def yX12_isFlap : MethodName := ⟨RX12, "isFlap", "(I)Z"⟩
abbrev cX12_begins : ByteArray := prog_14_method_16_code
def yX12_begins : MethodName := ⟨RX12, "begins", "()V"⟩
abbrev cX12_refuse : ByteArray := prog_14_method_17_code
def yX12_refuse : MethodName := ⟨RX12, "refuse", "(I)I"⟩
abbrev cX12_ends : ByteArray := prog_14_method_18_code
def yX12_ends : MethodName := ⟨RX12, "ends", "(I)I"⟩
abbrev cX12_undo : ByteArray := prog_14_method_19_code
def yX12_undo : MethodName := ⟨RX12, "undo", "()I"⟩
abbrev cX12_save : ByteArray := prog_14_method_20_code
def yX12_save : MethodName := ⟨RX12, "save", "(I)I"⟩
abbrev cX12_restore : ByteArray := prog_14_method_21_code
def yX12_restore : MethodName := ⟨RX12, "restore", "(I)I"⟩
abbrev cX12_layFlat : ByteArray := prog_14_method_22_code
def yX12_layFlat : MethodName := ⟨RX12, "layFlat", "()V"⟩
abbrev cX12_sideLength : ByteArray := prog_14_method_23_code
def yX12_sideLength : MethodName := ⟨RX12, "sideLength", "(II)I"⟩
abbrev cX12_common : ByteArray := prog_14_method_24_code
def yX12_common : MethodName := ⟨RX12, "common", "(IIII)I"⟩
abbrev cX12_overlap : ByteArray := prog_14_method_25_code
def yX12_overlap : MethodName := ⟨RX12, "overlap", "(II)Z"⟩
abbrev cX12_isValid : ByteArray := prog_14_method_26_code
def yX12_isValid : MethodName := ⟨RX12, "isValid", "()Z"⟩
abbrev cX12_doSheet : ByteArray := prog_14_method_27_code
def yX12_doSheet : MethodName := ⟨RX12, "doSheet", "(II)I"⟩
abbrev cX12_newPanel : ByteArray := prog_14_method_28_code
def yX12_newPanel : MethodName := ⟨RX12, "newPanel", "(I)V"⟩
abbrev cX12_doBase : ByteArray := prog_14_method_29_code
def yX12_doBase : MethodName := ⟨RX12, "doBase", "(IIII)I"⟩
abbrev cX12_doPanel : ByteArray := prog_14_method_30_code
def yX12_doPanel : MethodName := ⟨RX12, "doPanel", "(IIIIII)I"⟩
abbrev cX12_doFlap : ByteArray := prog_14_method_31_code
def yX12_doFlap : MethodName := ⟨RX12, "doFlap", "(II)I"⟩
abbrev cX12_doImage : ByteArray := prog_14_method_32_code
def yX12_doImage : MethodName := ⟨RX12, "doImage", "(III)I"⟩
abbrev cX12_doPlace : ByteArray := prog_14_method_33_code
def yX12_doPlace : MethodName := ⟨RX12, "doPlace", "(IIIII)I"⟩
abbrev cX12_setSheet : ByteArray := prog_14_method_34_code
def yX12_setSheet : MethodName := ⟨RX12, "setSheet", "(II)I"⟩
abbrev cX12_setBase : ByteArray := prog_14_method_35_code
def yX12_setBase : MethodName := ⟨RX12, "setBase", "(IIII)I"⟩
abbrev cX12_addPanel : ByteArray := prog_14_method_36_code
def yX12_addPanel : MethodName := ⟨RX12, "addPanel", "(IIIIII)I"⟩
abbrev cX12_removeLast : ByteArray := prog_14_method_37_code
def yX12_removeLast : MethodName := ⟨RX12, "removeLast", "()I"⟩
abbrev cX12_setAngle : ByteArray := prog_14_method_38_code
def yX12_setAngle : MethodName := ⟨RX12, "setAngle", "(II)I"⟩
abbrev cX12_setSize : ByteArray := prog_14_method_39_code
def yX12_setSize : MethodName := ⟨RX12, "setSize", "(III)I"⟩
abbrev cX12_setFlap : ByteArray := prog_14_method_40_code
def yX12_setFlap : MethodName := ⟨RX12, "setFlap", "(II)I"⟩
abbrev cX12_defineImage : ByteArray := prog_14_method_41_code
def yX12_defineImage : MethodName := ⟨RX12, "defineImage", "(III)I"⟩
abbrev cX12_place : ByteArray := prog_14_method_42_code
def yX12_place : MethodName := ⟨RX12, "place", "(IIIII)I"⟩
abbrev cX12_clearImage : ByteArray := prog_14_method_43_code
def yX12_clearImage : MethodName := ⟨RX12, "clearImage", "(I)I"⟩
abbrev cX12_setLimit : ByteArray := prog_14_method_44_code
def yX12_setLimit : MethodName := ⟨RX12, "setLimit", "(II)I"⟩
abbrev cX12_setWeight : ByteArray := prog_14_method_45_code
def yX12_setWeight : MethodName := ⟨RX12, "setWeight", "(II)I"⟩
abbrev cX12_type : ByteArray := prog_14_method_46_code
def yX12_type : MethodName := ⟨RX12, "type", "(I)I"⟩
abbrev cX12_clearText : ByteArray := prog_14_method_47_code
def yX12_clearText : MethodName := ⟨RX12, "clearText", "()I"⟩
abbrev cX12_here : ByteArray := prog_14_method_48_code
def yX12_here : MethodName := ⟨RX12, "here", "(I)I"⟩
abbrev cX12_isDigit : ByteArray := prog_14_method_49_code
def yX12_isDigit : MethodName := ⟨RX12, "isDigit", "(I)Z"⟩
abbrev cX12_numbersOf : ByteArray := prog_14_method_50_code
def yX12_numbersOf : MethodName := ⟨RX12, "numbersOf", "(I)I"⟩
abbrev cX12_numberEnd : ByteArray := prog_14_method_51_code
def yX12_numberEnd : MethodName := ⟨RX12, "numberEnd", "(I)I"⟩
abbrev cX12_numberAt : ByteArray := prog_14_method_52_code
def yX12_numberAt : MethodName := ⟨RX12, "numberAt", "(II)I"⟩
abbrev cX12_faulty : ByteArray := prog_14_method_53_code
def yX12_faulty : MethodName := ⟨RX12, "faulty", "(I)V"⟩
abbrev cX12_skips : ByteArray := prog_14_method_54_code
def yX12_skips : MethodName := ⟨RX12, "skips", "()V"⟩
abbrev cX12_readItem : ByteArray := prog_14_method_55_code
def yX12_readItem : MethodName := ⟨RX12, "readItem", "()V"⟩
abbrev cX12_carryOut : ByteArray := prog_14_method_56_code
def yX12_carryOut : MethodName := ⟨RX12, "carryOut", "(I)V"⟩
abbrev cX12_load : ByteArray := prog_14_method_57_code
def yX12_load : MethodName := ⟨RX12, "load", "()I"⟩
abbrev cX12_faultKind : ByteArray := prog_14_method_58_code
def yX12_faultKind : MethodName := ⟨RX12, "faultKind", "()I"⟩
abbrev cX12_layBase : ByteArray := prog_14_method_59_code
def yX12_layBase : MethodName := ⟨RX12, "layBase", "()V"⟩
abbrev cX12_layHung : ByteArray := prog_14_method_60_code
def yX12_layHung : MethodName := ⟨RX12, "layHung", "(II)V"⟩
abbrev cX12_fold : ByteArray := prog_14_method_61_code
def yX12_fold : MethodName := ⟨RX12, "fold", "(I)V"⟩
abbrev cX12_cornerOf : ByteArray := prog_14_method_62_code
def yX12_cornerOf : MethodName := ⟨RX12, "cornerOf", "(III)I"⟩
abbrev cX12_shared : ByteArray := prog_14_method_63_code
def yX12_shared : MethodName := ⟨RX12, "shared", "(III)I"⟩
abbrev cX12_cuts : ByteArray := prog_14_method_64_code
def yX12_cuts : MethodName := ⟨RX12, "cuts", "(III)Z"⟩
abbrev cX12_crossing : ByteArray := prog_14_method_65_code
def yX12_crossing : MethodName := ⟨RX12, "crossing", "(III)I"⟩
abbrev cX12_doubled : ByteArray := prog_14_method_66_code
def yX12_doubled : MethodName := ⟨RX12, "doubled", "(III)I"⟩
abbrev cX12_firstCorner : ByteArray := prog_14_method_67_code
def yX12_firstCorner : MethodName := ⟨RX12, "firstCorner", "(I)I"⟩
abbrev cX12_lastCorner : ByteArray := prog_14_method_68_code
def yX12_lastCorner : MethodName := ⟨RX12, "lastCorner", "(I)I"⟩
abbrev cX12_sideAxis : ByteArray := prog_14_method_69_code
def yX12_sideAxis : MethodName := ⟨RX12, "sideAxis", "(II)I"⟩
abbrev cX12_sideFrom : ByteArray := prog_14_method_70_code
def yX12_sideFrom : MethodName := ⟨RX12, "sideFrom", "(III)I"⟩
abbrev cX12_sideTo : ByteArray := prog_14_method_71_code
def yX12_sideTo : MethodName := ⟨RX12, "sideTo", "(III)I"⟩
abbrev cX12_meet : ByteArray := prog_14_method_72_code
def yX12_meet : MethodName := ⟨RX12, "meet", "(IIIII)V"⟩
abbrev cX12_findSeams : ByteArray := prog_14_method_73_code
def yX12_findSeams : MethodName := ⟨RX12, "findSeams", "(I)V"⟩
abbrev cX12_openOf : ByteArray := prog_14_method_74_code
def yX12_openOf : MethodName := ⟨RX12, "openOf", "(III)I"⟩
abbrev cX12_covered : ByteArray := prog_14_method_75_code
def yX12_covered : MethodName := ⟨RX12, "covered", "(II)I"⟩
abbrev cX12_imageSize : ByteArray := prog_14_method_76_code
def yX12_imageSize : MethodName := ⟨RX12, "imageSize", "(IZ)I"⟩
abbrev cX12_turnedSize : ByteArray := prog_14_method_77_code
def yX12_turnedSize : MethodName := ⟨RX12, "turnedSize", "(IZ)I"⟩
abbrev cX12_shows : ByteArray := prog_14_method_78_code
def yX12_shows : MethodName := ⟨RX12, "shows", "(I)Z"⟩
abbrev cX12_reachOf : ByteArray := prog_14_method_79_code
def yX12_reachOf : MethodName := ⟨RX12, "reachOf", "(II)I"⟩
abbrev cX12_inImage : ByteArray := prog_14_method_80_code
def yX12_inImage : MethodName := ⟨RX12, "inImage", "(IIIIIZ)I"⟩
abbrev cX12_imageOn : ByteArray := prog_14_method_81_code
def yX12_imageOn : MethodName := ⟨RX12, "imageOn", "(IIIZ)I"⟩
abbrev cX12_along : ByteArray := prog_14_method_82_code
def yX12_along : MethodName := ⟨RX12, "along", "(IIIIZ)I"⟩
abbrev cX12_outward : ByteArray := prog_14_method_83_code
def yX12_outward : MethodName := ⟨RX12, "outward", "(IZ)I"⟩
abbrev cX12_step : ByteArray := prog_14_method_84_code
def yX12_step : MethodName := ⟨RX12, "step", "(IIIZ)I"⟩
abbrev cX12_atEnd : ByteArray := prog_14_method_85_code
def yX12_atEnd : MethodName := ⟨RX12, "atEnd", "(IIIIZ)I"⟩
abbrev cX12_mismatch : ByteArray := prog_14_method_86_code
def yX12_mismatch : MethodName := ⟨RX12, "mismatch", "(I)I"⟩
abbrev cX12_onTurned : ByteArray := prog_14_method_87_code
def yX12_onTurned : MethodName := ⟨RX12, "onTurned", "(IIIIIZ)I"⟩
abbrev cX12_continueOver : ByteArray := prog_14_method_88_code
def yX12_continueOver : MethodName := ⟨RX12, "continueOver", "(IZ)I"⟩
abbrev cX12_continueImage : ByteArray := prog_14_method_89_code
def yX12_continueImage : MethodName := ⟨RX12, "continueImage", "(IZ)I"⟩
abbrev cX12_spreads : ByteArray := prog_14_method_90_code
def yX12_spreads : MethodName := ⟨RX12, "spreads", "(I)Z"⟩
abbrev cX12_spreadImage : ByteArray := prog_14_method_91_code
def yX12_spreadImage : MethodName := ⟨RX12, "spreadImage", "(I)I"⟩
abbrev cX12_finds : ByteArray := prog_14_method_92_code
def yX12_finds : MethodName := ⟨RX12, "finds", "(IIIII)V"⟩
abbrev cX12_isFolded : ByteArray := prog_14_method_93_code
def yX12_isFolded : MethodName := ⟨RX12, "isFolded", "(II)Z"⟩
abbrev cX12_stripOf : ByteArray := prog_14_method_94_code
def yX12_stripOf : MethodName := ⟨RX12, "stripOf", "(II)I"⟩
abbrev cX12_findIntrusions : ByteArray := prog_14_method_95_code
def yX12_findIntrusions : MethodName := ⟨RX12, "findIntrusions", "(II)V"⟩
abbrev cX12_findInk : ByteArray := prog_14_method_96_code
def yX12_findInk : MethodName := ⟨RX12, "findInk", "(I)V"⟩
abbrev cX12_findSides : ByteArray := prog_14_method_97_code
def yX12_findSides : MethodName := ⟨RX12, "findSides", "(II)V"⟩
abbrev cX12_findAll : ByteArray := prog_14_method_98_code
def yX12_findAll : MethodName := ⟨RX12, "findAll", "()V"⟩
abbrev cX12_isAhead : ByteArray := prog_14_method_99_code
def yX12_isAhead : MethodName := ⟨RX12, "isAhead", "(II)Z"⟩
abbrev cX12_placed : ByteArray := prog_14_method_100_code
def yX12_placed : MethodName := ⟨RX12, "placed", "(I)I"⟩
abbrev cX12_costs : ByteArray := prog_14_method_101_code
def yX12_costs : MethodName := ⟨RX12, "costs", "(I)J"⟩
abbrev cX12_findingCount : ByteArray := prog_14_method_102_code
def yX12_findingCount : MethodName := ⟨RX12, "findingCount", "()I"⟩
abbrev cX12_finding : ByteArray := prog_14_method_103_code
def yX12_finding : MethodName := ⟨RX12, "finding", "(II)I"⟩
abbrev cX12_totalCost : ByteArray := prog_14_method_104_code
def yX12_totalCost : MethodName := ⟨RX12, "totalCost", "()J"⟩
abbrev cX12_panelCost : ByteArray := prog_14_method_105_code
def yX12_panelCost : MethodName := ⟨RX12, "panelCost", "(I)J"⟩
abbrev cX12_bestDepth : ByteArray := prog_14_method_106_code
def yX12_bestDepth : MethodName := ⟨RX12, "bestDepth", "(I)I"⟩
abbrev cX12_bestAngle : ByteArray := prog_14_method_107_code
def yX12_bestAngle : MethodName := ⟨RX12, "bestAngle", "(I)I"⟩
abbrev cX12_flat : ByteArray := prog_14_method_108_code
def yX12_flat : MethodName := ⟨RX12, "flat", "(II)I"⟩
abbrev cX12_sideX : ByteArray := prog_14_method_109_code
def yX12_sideX : MethodName := ⟨RX12, "sideX", "(II)I"⟩
abbrev cX12_sideY : ByteArray := prog_14_method_110_code
def yX12_sideY : MethodName := ⟨RX12, "sideY", "(II)I"⟩
abbrev cX12_isOn : ByteArray := prog_14_method_111_code
def yX12_isOn : MethodName := ⟨RX12, "isOn", "(IIZII)Z"⟩
abbrev cX12_isFold : ByteArray := prog_14_method_112_code
def yX12_isFold : MethodName := ⟨RX12, "isFold", "(ZII)Z"⟩
abbrev cX12_isCounted : ByteArray := prog_14_method_113_code
def yX12_isCounted : MethodName := ⟨RX12, "isCounted", "(IIZII)Z"⟩
abbrev cX12_cutLength : ByteArray := prog_14_method_114_code
def yX12_cutLength : MethodName := ⟨RX12, "cutLength", "()I"⟩
abbrev cX12_creaseLength : ByteArray := prog_14_method_115_code
def yX12_creaseLength : MethodName := ⟨RX12, "creaseLength", "()I"⟩
abbrev cX12_apart : ByteArray := prog_14_method_116_code
def yX12_apart : MethodName := ⟨RX12, "apart", "(IIII)I"⟩
abbrev cX12_isNear : ByteArray := prog_14_method_117_code
def yX12_isNear : MethodName := ⟨RX12, "isNear", "(IIIII)Z"⟩
abbrev cX12_leastOf : ByteArray := prog_14_method_118_code
def yX12_leastOf : MethodName := ⟨RX12, "leastOf", "(I)I"⟩
abbrev cX12_greatestOf : ByteArray := prog_14_method_119_code
def yX12_greatestOf : MethodName := ⟨RX12, "greatestOf", "(I)I"⟩
abbrev cX12_isFree : ByteArray := prog_14_method_120_code
def yX12_isFree : MethodName := ⟨RX12, "isFree", "(IIZI)Z"⟩
abbrev cX12_pitchOf : ByteArray := prog_14_method_121_code
def yX12_pitchOf : MethodName := ⟨RX12, "pitchOf", "(IIZ)I"⟩
abbrev cX12_pitch : ByteArray := prog_14_method_122_code
def yX12_pitch : MethodName := ⟨RX12, "pitch", "(IIZ)I"⟩
abbrev cX12_rowCount : ByteArray := prog_14_method_123_code
def yX12_rowCount : MethodName := ⟨RX12, "rowCount", "(II)I"⟩
abbrev cX12_corner : ByteArray := prog_14_method_124_code
def yX12_corner : MethodName := ⟨RX12, "corner", "(III)I"⟩
abbrev cX12_facing : ByteArray := prog_14_method_125_code
def yX12_facing : MethodName := ⟨RX12, "facing", "(I)I"⟩
abbrev cX12_openLength : ByteArray := prog_14_method_126_code
def yX12_openLength : MethodName := ⟨RX12, "openLength", "(II)I"⟩
abbrev cX12_seamCount : ByteArray := prog_14_method_127_code
def yX12_seamCount : MethodName := ⟨RX12, "seamCount", "()I"⟩
abbrev cX12_seam : ByteArray := prog_14_method_128_code
def yX12_seam : MethodName := ⟨RX12, "seam", "(II)I"⟩
abbrev cX12_coverage : ByteArray := prog_14_method_129_code
def yX12_coverage : MethodName := ⟨RX12, "coverage", "(I)I"⟩
abbrev cX12_isShut : ByteArray := prog_14_method_130_code
def yX12_isShut : MethodName := ⟨RX12, "isShut", "(I)Z"⟩
abbrev cX12_volume : ByteArray := prog_14_method_131_code
def yX12_volume : MethodName := ⟨RX12, "volume", "()J"⟩
abbrev cX12_leastTolerance : ByteArray := prog_14_method_132_code
def yX12_leastTolerance : MethodName := ⟨RX12, "leastTolerance", "()I"⟩
abbrev cX12_crossingsBy : ByteArray := prog_14_method_133_code
def yX12_crossingsBy : MethodName := ⟨RX12, "crossingsBy", "(I)I"⟩
abbrev cX12_crossings : ByteArray := prog_14_method_134_code
def yX12_crossings : MethodName := ⟨RX12, "crossings", "(I)I"⟩
abbrev cX12_foldStep : ByteArray := prog_14_method_135_code
def yX12_foldStep : MethodName := ⟨RX12, "foldStep", "(I)I"⟩
abbrev cX12_imageAt : ByteArray := prog_14_method_136_code
def yX12_imageAt : MethodName := ⟨RX12, "imageAt", "(IIII)I"⟩
abbrev cX12_reach : ByteArray := prog_14_method_137_code
def yX12_reach : MethodName := ⟨RX12, "reach", "(II)I"⟩
abbrev cX12_turnedPanels : ByteArray := prog_14_method_138_code
def yX12_turnedPanels : MethodName := ⟨RX12, "turnedPanels", "()I"⟩
abbrev cX12_flaps : ByteArray := prog_14_method_139_code
def yX12_flaps : MethodName := ⟨RX12, "flaps", "()I"⟩
abbrev cX12_definedImages : ByteArray := prog_14_method_140_code
def yX12_definedImages : MethodName := ⟨RX12, "definedImages", "()I"⟩
abbrev cX12_count : ByteArray := prog_14_method_141_code
def yX12_count : MethodName := ⟨RX12, "count", "(I)I"⟩
def RJ9 : String := "java/lang/Math"
abbrev cJ9_abs_0f7a4 : ByteArray := prog_15_method_59_code
def yJ9_abs_0f7a4 : MethodName := ⟨RJ9, "abs", "(I)I"⟩
abbrev cJ9_abs_067f4 : ByteArray := prog_15_method_61_code
def yJ9_abs_067f4 : MethodName := ⟨RJ9, "abs", "(J)J"⟩
abbrev cJ9_max_7cf53 : ByteArray := prog_15_method_65_code
def yJ9_max_7cf53 : MethodName := ⟨RJ9, "max", "(II)I"⟩
abbrev cJ9_min_7cf53 : ByteArray := prog_15_method_69_code
def yJ9_min_7cf53 : MethodName := ⟨RJ9, "min", "(II)I"⟩
def RL : String := "DieLineCheckerLaw"
abbrev cL_law : ByteArray := code
def yL_law : MethodName := ⟨RL, "law", "([I)Z"⟩
abbrev vwCl : List vw_C := [(RX0, TX0, 11), (RX1, TX1, 2), (RX2, TX2, 3), (RX3, TX3, 7), (RX4, TX4, 8), (RX5, TX5, 5), (RX6, TX6, 5), (RX7, TX7, 15), (RX8, TX8, 14), (RX9, TX9, 8), (RX10, TX10, 9), (RX11, TX11, 16), (RX12, TX12, 30)]
theorem nm_sub {big : List Cond} (ws : List Cond) (ps : List Nat) (hp : ws = ps.filterMap (fun i => big[i]?)) : ∀ w ∈ ws, w ∈ big := by
  intro w hw
  rw [hp] at hw
  obtain ⟨i, -, hi⟩ := List.mem_filterMap.mp hw
  exact List.mem_of_getElem? hi
theorem inX0 : ∀ w ∈ u_ws RX0 TX0 11, w ∈ lw_tbl := nm_sub _ [517, 519, 521, 523, 525, 527, 529, 531, 533, 535, 537] (by decide +kernel)
theorem inX1 : ∀ w ∈ u_ws RX1 TX1 2, w ∈ lw_tbl := nm_sub _ [366, 368] (by decide +kernel)
theorem inX2 : ∀ w ∈ u_ws RX2 TX2 3, w ∈ lw_tbl := nm_sub _ [357, 359, 361] (by decide +kernel)
theorem inX3 : ∀ w ∈ u_ws RX3 TX3 7, w ∈ lw_tbl := nm_sub _ [263, 265, 267, 269, 271, 273, 275] (by decide +kernel)
theorem inX4 : ∀ w ∈ u_ws RX4 TX4 8, w ∈ lw_tbl := nm_sub _ [555, 557, 559, 561, 563, 565, 567, 569] (by decide +kernel)
theorem inX5 : ∀ w ∈ u_ws RX5 TX5 5, w ∈ lw_tbl := nm_sub _ [458, 460, 462, 464, 466] (by decide +kernel)
theorem inX6 : ∀ w ∈ u_ws RX6 TX6 5, w ∈ lw_tbl := nm_sub _ [295, 297, 299, 301, 303] (by decide +kernel)
theorem inX7 : ∀ w ∈ u_ws RX7 TX7 15, w ∈ lw_tbl := nm_sub _ [216, 218, 220, 222, 224, 226, 228, 230, 232, 234, 236, 238, 240, 242, 244] (by decide +kernel)
theorem inX8 : ∀ w ∈ u_ws RX8 TX8 14, w ∈ lw_tbl := nm_sub _ [423, 425, 427, 429, 431, 433, 435, 437, 439, 441, 443, 445, 447, 449] (by decide +kernel)
theorem inX9 : ∀ w ∈ u_ws RX9 TX9 8, w ∈ lw_tbl := nm_sub _ [325, 327, 329, 331, 333, 335, 337, 339] (by decide +kernel)
theorem inX10 : ∀ w ∈ u_ws RX10 TX10 9, w ∈ lw_tbl := nm_sub _ [485, 487, 489, 491, 493, 495, 497, 499, 501] (by decide +kernel)
theorem inX11 : ∀ w ∈ u_ws RX11 TX11 16, w ∈ lw_tbl := nm_sub _ [589, 591, 593, 595, 597, 599, 601, 603, 605, 607, 609, 611, 613, 615, 617, 619] (by decide +kernel)
theorem inX12 : ∀ w ∈ u_ws RX12 TX12 30, w ∈ lw_tbl := nm_sub _ [1554, 1556, 1558, 1560, 1562, 1564, 1566, 1568, 1570, 1572, 1574, 1576, 1578, 1580, 1582, 1584, 1586, 1588, 1590, 1592, 1594, 1596, 1598, 1600, 1602, 1604, 1606, 1608, 1610, 1612] (by decide +kernel)
end
section
/-! the cells of the run by their numbers: kinds (0..12 the classes of vwCl, 20 int[], 21 boolean[], 22 long[], 23 Panel[], 24 Design[], 25 Pose[], 26 int[][]), lengths, references; by program out of the constructors -/
def kapL : List Nat := [11, 3, 20, 20, 23, 7, 7, 7, 7, 7, 7, 7, 7, 7, 7, 7, 3, 20, 20, 23, 7, 7, 7, 7, 7, 7, 7, 7, 7, 7, 7, 24, 21, 6, 24, 26, 20, 20, 20, 20, 20, 20, 20, 20, 20, 20, 20, 20, 26, 20, 20, 20, 20, 20, 20, 20, 20, 20, 20, 20, 20, 3, 20, 20, 23, 7, 7, 7, 7, 7, 7, 7, 7, 7, 7, 7, 3, 20, 20, 23, 7, 7, 7, 7, 7, 7, 7, 7, 7, 7, 7, 3, 20, 20, 23, 7, 7, 7, 7, 7, 7, 7, 7, 7, 7, 7, 3, 20, 20, 23, 7, 7, 7, 7, 7, 7, 7, 7, 7, 7, 7, 3, 20, 20, 23, 7, 7, 7, 7, 7, 7, 7, 7, 7, 7, 7, 3, 20, 20, 23, 7, 7, 7, 7, 7, 7, 7, 7, 7, 7, 7, 3, 20, 20, 23, 7, 7, 7, 7, 7, 7, 7, 7, 7, 7, 7, 3, 20, 20, 23, 7, 7, 7, 7, 7, 7, 7, 7, 7, 7, 7, 3, 20, 20, 23, 7, 7, 7, 7, 7, 7, 7, 7, 7, 7, 7, 3, 20, 20, 23, 7, 7, 7, 7, 7, 7, 7, 7, 7, 7, 7, 3, 20, 20, 23, 7, 7, 7, 7, 7, 7, 7, 7, 7, 7, 7, 3, 20, 20, 23, 7, 7, 7, 7, 7, 7, 7, 7, 7, 7, 7, 20, 9, 3, 20, 20, 23, 7, 7, 7, 7, 7, 7, 7, 7, 7, 7, 7, 20, 1, 2, 20, 20, 21, 4, 20, 20, 0, 10, 5, 25, 8, 20, 20, 20, 20, 20, 20, 20, 20, 20, 20, 21, 8, 20, 20, 20, 20, 20, 20, 20, 20, 20, 8, 20, 20, 20, 20, 20, 20, 20, 20, 20, 8, 20, 20, 20, 20, 20, 20, 20, 20, 20, 8, 20, 20, 20, 20, 20, 20, 20, 20, 20, 8, 20, 20, 20, 20, 20, 20, 20, 20, 20, 8, 20, 20, 20, 20, 20, 20, 20, 20, 20, 8, 20, 20, 20, 20, 20, 20, 20, 20, 20, 8, 20, 20, 20, 20, 20, 20, 20, 20, 20, 8, 20, 20, 20, 20, 20, 20, 20, 20, 20, 8, 20, 20, 20, 20, 20, 20, 20, 20, 20, 20, 20, 20, 20, 20, 2, 20, 20, 20, 20, 20, 20, 22, 3, 20, 20, 23, 7, 7, 7, 7, 7, 7, 7, 7, 7, 7, 7, 3, 20, 20, 23, 7, 7, 7, 7, 7, 7, 7, 7, 7, 7, 7, 12, 20, 20, 20, 20, 21, 20, 20, 20, 20, 20, 20, 20, 20, 20, 20, 20, 20, 20, 20, 20, 20, 20, 21]
def lenL : List Nat := [16, 7, 4, 4, 10, 15, 15, 15, 15, 15, 15, 15, 15, 15, 15, 15, 7, 4, 4, 10, 15, 15, 15, 15, 15, 15, 15, 15, 15, 15, 15, 2, 2, 5, 12, 12, 4, 4, 4, 4, 4, 4, 4, 4, 4, 4, 4, 4, 12, 8, 8, 8, 8, 8, 8, 8, 8, 8, 8, 8, 8, 7, 4, 4, 10, 15, 15, 15, 15, 15, 15, 15, 15, 15, 15, 15, 7, 4, 4, 10, 15, 15, 15, 15, 15, 15, 15, 15, 15, 15, 15, 7, 4, 4, 10, 15, 15, 15, 15, 15, 15, 15, 15, 15, 15, 15, 7, 4, 4, 10, 15, 15, 15, 15, 15, 15, 15, 15, 15, 15, 15, 7, 4, 4, 10, 15, 15, 15, 15, 15, 15, 15, 15, 15, 15, 15, 7, 4, 4, 10, 15, 15, 15, 15, 15, 15, 15, 15, 15, 15, 15, 7, 4, 4, 10, 15, 15, 15, 15, 15, 15, 15, 15, 15, 15, 15, 7, 4, 4, 10, 15, 15, 15, 15, 15, 15, 15, 15, 15, 15, 15, 7, 4, 4, 10, 15, 15, 15, 15, 15, 15, 15, 15, 15, 15, 15, 7, 4, 4, 10, 15, 15, 15, 15, 15, 15, 15, 15, 15, 15, 15, 7, 4, 4, 10, 15, 15, 15, 15, 15, 15, 15, 15, 15, 15, 15, 7, 4, 4, 10, 15, 15, 15, 15, 15, 15, 15, 15, 15, 15, 15, 160, 8, 7, 4, 4, 10, 15, 15, 15, 15, 15, 15, 15, 15, 15, 15, 15, 6, 2, 3, 40, 40, 351, 8, 4, 8, 11, 9, 5, 10, 14, 3, 3, 4, 4, 4, 4, 4, 3, 4, 10, 1024, 14, 3, 3, 4, 4, 4, 4, 4, 3, 4, 14, 3, 3, 4, 4, 4, 4, 4, 3, 4, 14, 3, 3, 4, 4, 4, 4, 4, 3, 4, 14, 3, 3, 4, 4, 4, 4, 4, 3, 4, 14, 3, 3, 4, 4, 4, 4, 4, 3, 4, 14, 3, 3, 4, 4, 4, 4, 4, 3, 4, 14, 3, 3, 4, 4, 4, 4, 4, 3, 4, 14, 3, 3, 4, 4, 4, 4, 4, 3, 4, 14, 3, 3, 4, 4, 4, 4, 4, 3, 4, 14, 3, 3, 4, 4, 4, 4, 4, 3, 4, 360, 360, 360, 360, 360, 3, 40, 40, 6, 6, 6, 6, 1000, 7, 4, 4, 10, 15, 15, 15, 15, 15, 15, 15, 15, 15, 15, 15, 7, 4, 4, 10, 15, 15, 15, 15, 15, 15, 15, 15, 15, 15, 15, 30, 137, 137, 1644, 250, 2, 10, 10, 10, 10, 160, 7, 137, 30, 30, 30, 30, 30, 30, 10, 6480, 9600, 4, 1024]
def rhoL : List (List Nat) := [[1, 16, 31, 32, 33, 241, 242, 259, 264, 267, 268, 269, 265, 266, 0, 0], [2, 3, 0, 0, 0, 4, 5], [], [], [6, 7, 8, 9, 10, 11, 12, 13, 14, 15], [0, 0, 0, 0, 0, 0, 0, 0, 0, 0, 0, 0, 0, 0, 0], [0, 0, 0, 0, 0, 0, 0, 0, 0, 0, 0, 0, 0, 0, 0], [0, 0, 0, 0, 0, 0, 0, 0, 0, 0, 0, 0, 0, 0, 0], [0, 0, 0, 0, 0, 0, 0, 0, 0, 0, 0, 0, 0, 0, 0], [0, 0, 0, 0, 0, 0, 0, 0, 0, 0, 0, 0, 0, 0, 0], [0, 0, 0, 0, 0, 0, 0, 0, 0, 0, 0, 0, 0, 0, 0], [0, 0, 0, 0, 0, 0, 0, 0, 0, 0, 0, 0, 0, 0, 0], [0, 0, 0, 0, 0, 0, 0, 0, 0, 0, 0, 0, 0, 0, 0], [0, 0, 0, 0, 0, 0, 0, 0, 0, 0, 0, 0, 0, 0, 0], [0, 0, 0, 0, 0, 0, 0, 0, 0, 0, 0, 0, 0, 0, 0], [0, 0, 0, 0, 0, 0, 0, 0, 0, 0, 0, 0, 0, 0, 0], [17, 18, 0, 0, 0, 19, 20], [], [], [21, 22, 23, 24, 25, 26, 27, 28, 29, 30], [0, 0, 0, 0, 0, 0, 0, 0, 0, 0, 0, 0, 0, 0, 0], [0, 0, 0, 0, 0, 0, 0, 0, 0, 0, 0, 0, 0, 0, 0], [0, 0, 0, 0, 0, 0, 0, 0, 0, 0, 0, 0, 0, 0, 0], [0, 0, 0, 0, 0, 0, 0, 0, 0, 0, 0, 0, 0, 0, 0], [0, 0, 0, 0, 0, 0, 0, 0, 0, 0, 0, 0, 0, 0, 0], [0, 0, 0, 0, 0, 0, 0, 0, 0, 0, 0, 0, 0, 0, 0], [0, 0, 0, 0, 0, 0, 0, 0, 0, 0, 0, 0, 0, 0, 0], [0, 0, 0, 0, 0, 0, 0, 0, 0, 0, 0, 0, 0, 0, 0], [0, 0, 0, 0, 0, 0, 0, 0, 0, 0, 0, 0, 0, 0, 0], [0, 0, 0, 0, 0, 0, 0, 0, 0, 0, 0, 0, 0, 0, 0], [0, 0, 0, 0, 0, 0, 0, 0, 0, 0, 0, 0, 0, 0, 0], [396, 411], [], [0, 0, 34, 35, 48], [61, 76, 91, 106, 121, 136, 151, 166, 181, 196, 211, 226], [36, 37, 38, 39, 40, 41, 42, 43, 44, 45, 46, 47], [], [], [], [], [], [], [], [], [], [], [], [], [49, 50, 51, 52, 53, 54, 55, 56, 57, 58, 59, 60], [], [], [], [], [], [], [], [], [], [], [], [], [62, 63, 0, 0, 0, 64, 65], [], [], [66, 67, 68, 69, 70, 71, 72, 73, 74, 75], [0, 0, 0, 0, 0, 0, 0, 0, 0, 0, 0, 0, 0, 0, 0], [0, 0, 0, 0, 0, 0, 0, 0, 0, 0, 0, 0, 0, 0, 0], [0, 0, 0, 0, 0, 0, 0, 0, 0, 0, 0, 0, 0, 0, 0], [0, 0, 0, 0, 0, 0, 0, 0, 0, 0, 0, 0, 0, 0, 0], [0, 0, 0, 0, 0, 0, 0, 0, 0, 0, 0, 0, 0, 0, 0], [0, 0, 0, 0, 0, 0, 0, 0, 0, 0, 0, 0, 0, 0, 0], [0, 0, 0, 0, 0, 0, 0, 0, 0, 0, 0, 0, 0, 0, 0], [0, 0, 0, 0, 0, 0, 0, 0, 0, 0, 0, 0, 0, 0, 0], [0, 0, 0, 0, 0, 0, 0, 0, 0, 0, 0, 0, 0, 0, 0], [0, 0, 0, 0, 0, 0, 0, 0, 0, 0, 0, 0, 0, 0, 0], [0, 0, 0, 0, 0, 0, 0, 0, 0, 0, 0, 0, 0, 0, 0], [77, 78, 0, 0, 0, 79, 80], [], [], [81, 82, 83, 84, 85, 86, 87, 88, 89, 90], [0, 0, 0, 0, 0, 0, 0, 0, 0, 0, 0, 0, 0, 0, 0], [0, 0, 0, 0, 0, 0, 0, 0, 0, 0, 0, 0, 0, 0, 0], [0, 0, 0, 0, 0, 0, 0, 0, 0, 0, 0, 0, 0, 0, 0], [0, 0, 0, 0, 0, 0, 0, 0, 0, 0, 0, 0, 0, 0, 0], [0, 0, 0, 0, 0, 0, 0, 0, 0, 0, 0, 0, 0, 0, 0], [0, 0, 0, 0, 0, 0, 0, 0, 0, 0, 0, 0, 0, 0, 0], [0, 0, 0, 0, 0, 0, 0, 0, 0, 0, 0, 0, 0, 0, 0], [0, 0, 0, 0, 0, 0, 0, 0, 0, 0, 0, 0, 0, 0, 0], [0, 0, 0, 0, 0, 0, 0, 0, 0, 0, 0, 0, 0, 0, 0], [0, 0, 0, 0, 0, 0, 0, 0, 0, 0, 0, 0, 0, 0, 0], [0, 0, 0, 0, 0, 0, 0, 0, 0, 0, 0, 0, 0, 0, 0], [92, 93, 0, 0, 0, 94, 95], [], [], [96, 97, 98, 99, 100, 101, 102, 103, 104, 105], [0, 0, 0, 0, 0, 0, 0, 0, 0, 0, 0, 0, 0, 0, 0], [0, 0, 0, 0, 0, 0, 0, 0, 0, 0, 0, 0, 0, 0, 0], [0, 0, 0, 0, 0, 0, 0, 0, 0, 0, 0, 0, 0, 0, 0], [0, 0, 0, 0, 0, 0, 0, 0, 0, 0, 0, 0, 0, 0, 0], [0, 0, 0, 0, 0, 0, 0, 0, 0, 0, 0, 0, 0, 0, 0], [0, 0, 0, 0, 0, 0, 0, 0, 0, 0, 0, 0, 0, 0, 0], [0, 0, 0, 0, 0, 0, 0, 0, 0, 0, 0, 0, 0, 0, 0], [0, 0, 0, 0, 0, 0, 0, 0, 0, 0, 0, 0, 0, 0, 0], [0, 0, 0, 0, 0, 0, 0, 0, 0, 0, 0, 0, 0, 0, 0], [0, 0, 0, 0, 0, 0, 0, 0, 0, 0, 0, 0, 0, 0, 0], [0, 0, 0, 0, 0, 0, 0, 0, 0, 0, 0, 0, 0, 0, 0], [107, 108, 0, 0, 0, 109, 110], [], [], [111, 112, 113, 114, 115, 116, 117, 118, 119, 120], [0, 0, 0, 0, 0, 0, 0, 0, 0, 0, 0, 0, 0, 0, 0], [0, 0, 0, 0, 0, 0, 0, 0, 0, 0, 0, 0, 0, 0, 0], [0, 0, 0, 0, 0, 0, 0, 0, 0, 0, 0, 0, 0, 0, 0], [0, 0, 0, 0, 0, 0, 0, 0, 0, 0, 0, 0, 0, 0, 0], [0, 0, 0, 0, 0, 0, 0, 0, 0, 0, 0, 0, 0, 0, 0], [0, 0, 0, 0, 0, 0, 0, 0, 0, 0, 0, 0, 0, 0, 0], [0, 0, 0, 0, 0, 0, 0, 0, 0, 0, 0, 0, 0, 0, 0], [0, 0, 0, 0, 0, 0, 0, 0, 0, 0, 0, 0, 0, 0, 0], [0, 0, 0, 0, 0, 0, 0, 0, 0, 0, 0, 0, 0, 0, 0], [0, 0, 0, 0, 0, 0, 0, 0, 0, 0, 0, 0, 0, 0, 0], [0, 0, 0, 0, 0, 0, 0, 0, 0, 0, 0, 0, 0, 0, 0], [122, 123, 0, 0, 0, 124, 125], [], [], [126, 127, 128, 129, 130, 131, 132, 133, 134, 135], [0, 0, 0, 0, 0, 0, 0, 0, 0, 0, 0, 0, 0, 0, 0], [0, 0, 0, 0, 0, 0, 0, 0, 0, 0, 0, 0, 0, 0, 0], [0, 0, 0, 0, 0, 0, 0, 0, 0, 0, 0, 0, 0, 0, 0], [0, 0, 0, 0, 0, 0, 0, 0, 0, 0, 0, 0, 0, 0, 0], [0, 0, 0, 0, 0, 0, 0, 0, 0, 0, 0, 0, 0, 0, 0], [0, 0, 0, 0, 0, 0, 0, 0, 0, 0, 0, 0, 0, 0, 0], [0, 0, 0, 0, 0, 0, 0, 0, 0, 0, 0, 0, 0, 0, 0], [0, 0, 0, 0, 0, 0, 0, 0, 0, 0, 0, 0, 0, 0, 0], [0, 0, 0, 0, 0, 0, 0, 0, 0, 0, 0, 0, 0, 0, 0], [0, 0, 0, 0, 0, 0, 0, 0, 0, 0, 0, 0, 0, 0, 0], [0, 0, 0, 0, 0, 0, 0, 0, 0, 0, 0, 0, 0, 0, 0], [137, 138, 0, 0, 0, 139, 140], [], [], [141, 142, 143, 144, 145, 146, 147, 148, 149, 150], [0, 0, 0, 0, 0, 0, 0, 0, 0, 0, 0, 0, 0, 0, 0], [0, 0, 0, 0, 0, 0, 0, 0, 0, 0, 0, 0, 0, 0, 0], [0, 0, 0, 0, 0, 0, 0, 0, 0, 0, 0, 0, 0, 0, 0], [0, 0, 0, 0, 0, 0, 0, 0, 0, 0, 0, 0, 0, 0, 0], [0, 0, 0, 0, 0, 0, 0, 0, 0, 0, 0, 0, 0, 0, 0], [0, 0, 0, 0, 0, 0, 0, 0, 0, 0, 0, 0, 0, 0, 0], [0, 0, 0, 0, 0, 0, 0, 0, 0, 0, 0, 0, 0, 0, 0], [0, 0, 0, 0, 0, 0, 0, 0, 0, 0, 0, 0, 0, 0, 0], [0, 0, 0, 0, 0, 0, 0, 0, 0, 0, 0, 0, 0, 0, 0], [0, 0, 0, 0, 0, 0, 0, 0, 0, 0, 0, 0, 0, 0, 0], [0, 0, 0, 0, 0, 0, 0, 0, 0, 0, 0, 0, 0, 0, 0], [152, 153, 0, 0, 0, 154, 155], [], [], [156, 157, 158, 159, 160, 161, 162, 163, 164, 165], [0, 0, 0, 0, 0, 0, 0, 0, 0, 0, 0, 0, 0, 0, 0], [0, 0, 0, 0, 0, 0, 0, 0, 0, 0, 0, 0, 0, 0, 0], [0, 0, 0, 0, 0, 0, 0, 0, 0, 0, 0, 0, 0, 0, 0], [0, 0, 0, 0, 0, 0, 0, 0, 0, 0, 0, 0, 0, 0, 0], [0, 0, 0, 0, 0, 0, 0, 0, 0, 0, 0, 0, 0, 0, 0], [0, 0, 0, 0, 0, 0, 0, 0, 0, 0, 0, 0, 0, 0, 0], [0, 0, 0, 0, 0, 0, 0, 0, 0, 0, 0, 0, 0, 0, 0], [0, 0, 0, 0, 0, 0, 0, 0, 0, 0, 0, 0, 0, 0, 0], [0, 0, 0, 0, 0, 0, 0, 0, 0, 0, 0, 0, 0, 0, 0], [0, 0, 0, 0, 0, 0, 0, 0, 0, 0, 0, 0, 0, 0, 0], [0, 0, 0, 0, 0, 0, 0, 0, 0, 0, 0, 0, 0, 0, 0], [167, 168, 0, 0, 0, 169, 170], [], [], [171, 172, 173, 174, 175, 176, 177, 178, 179, 180], [0, 0, 0, 0, 0, 0, 0, 0, 0, 0, 0, 0, 0, 0, 0], [0, 0, 0, 0, 0, 0, 0, 0, 0, 0, 0, 0, 0, 0, 0], [0, 0, 0, 0, 0, 0, 0, 0, 0, 0, 0, 0, 0, 0, 0], [0, 0, 0, 0, 0, 0, 0, 0, 0, 0, 0, 0, 0, 0, 0], [0, 0, 0, 0, 0, 0, 0, 0, 0, 0, 0, 0, 0, 0, 0], [0, 0, 0, 0, 0, 0, 0, 0, 0, 0, 0, 0, 0, 0, 0], [0, 0, 0, 0, 0, 0, 0, 0, 0, 0, 0, 0, 0, 0, 0], [0, 0, 0, 0, 0, 0, 0, 0, 0, 0, 0, 0, 0, 0, 0], [0, 0, 0, 0, 0, 0, 0, 0, 0, 0, 0, 0, 0, 0, 0], [0, 0, 0, 0, 0, 0, 0, 0, 0, 0, 0, 0, 0, 0, 0], [0, 0, 0, 0, 0, 0, 0, 0, 0, 0, 0, 0, 0, 0, 0], [182, 183, 0, 0, 0, 184, 185], [], [], [186, 187, 188, 189, 190, 191, 192, 193, 194, 195], [0, 0, 0, 0, 0, 0, 0, 0, 0, 0, 0, 0, 0, 0, 0], [0, 0, 0, 0, 0, 0, 0, 0, 0, 0, 0, 0, 0, 0, 0], [0, 0, 0, 0, 0, 0, 0, 0, 0, 0, 0, 0, 0, 0, 0], [0, 0, 0, 0, 0, 0, 0, 0, 0, 0, 0, 0, 0, 0, 0], [0, 0, 0, 0, 0, 0, 0, 0, 0, 0, 0, 0, 0, 0, 0], [0, 0, 0, 0, 0, 0, 0, 0, 0, 0, 0, 0, 0, 0, 0], [0, 0, 0, 0, 0, 0, 0, 0, 0, 0, 0, 0, 0, 0, 0], [0, 0, 0, 0, 0, 0, 0, 0, 0, 0, 0, 0, 0, 0, 0], [0, 0, 0, 0, 0, 0, 0, 0, 0, 0, 0, 0, 0, 0, 0], [0, 0, 0, 0, 0, 0, 0, 0, 0, 0, 0, 0, 0, 0, 0], [0, 0, 0, 0, 0, 0, 0, 0, 0, 0, 0, 0, 0, 0, 0], [197, 198, 0, 0, 0, 199, 200], [], [], [201, 202, 203, 204, 205, 206, 207, 208, 209, 210], [0, 0, 0, 0, 0, 0, 0, 0, 0, 0, 0, 0, 0, 0, 0], [0, 0, 0, 0, 0, 0, 0, 0, 0, 0, 0, 0, 0, 0, 0], [0, 0, 0, 0, 0, 0, 0, 0, 0, 0, 0, 0, 0, 0, 0], [0, 0, 0, 0, 0, 0, 0, 0, 0, 0, 0, 0, 0, 0, 0], [0, 0, 0, 0, 0, 0, 0, 0, 0, 0, 0, 0, 0, 0, 0], [0, 0, 0, 0, 0, 0, 0, 0, 0, 0, 0, 0, 0, 0, 0], [0, 0, 0, 0, 0, 0, 0, 0, 0, 0, 0, 0, 0, 0, 0], [0, 0, 0, 0, 0, 0, 0, 0, 0, 0, 0, 0, 0, 0, 0], [0, 0, 0, 0, 0, 0, 0, 0, 0, 0, 0, 0, 0, 0, 0], [0, 0, 0, 0, 0, 0, 0, 0, 0, 0, 0, 0, 0, 0, 0], [0, 0, 0, 0, 0, 0, 0, 0, 0, 0, 0, 0, 0, 0, 0], [212, 213, 0, 0, 0, 214, 215], [], [], [216, 217, 218, 219, 220, 221, 222, 223, 224, 225], [0, 0, 0, 0, 0, 0, 0, 0, 0, 0, 0, 0, 0, 0, 0], [0, 0, 0, 0, 0, 0, 0, 0, 0, 0, 0, 0, 0, 0, 0], [0, 0, 0, 0, 0, 0, 0, 0, 0, 0, 0, 0, 0, 0, 0], [0, 0, 0, 0, 0, 0, 0, 0, 0, 0, 0, 0, 0, 0, 0], [0, 0, 0, 0, 0, 0, 0, 0, 0, 0, 0, 0, 0, 0, 0], [0, 0, 0, 0, 0, 0, 0, 0, 0, 0, 0, 0, 0, 0, 0], [0, 0, 0, 0, 0, 0, 0, 0, 0, 0, 0, 0, 0, 0, 0], [0, 0, 0, 0, 0, 0, 0, 0, 0, 0, 0, 0, 0, 0, 0], [0, 0, 0, 0, 0, 0, 0, 0, 0, 0, 0, 0, 0, 0, 0], [0, 0, 0, 0, 0, 0, 0, 0, 0, 0, 0, 0, 0, 0, 0], [0, 0, 0, 0, 0, 0, 0, 0, 0, 0, 0, 0, 0, 0, 0], [227, 228, 0, 0, 0, 229, 230], [], [], [231, 232, 233, 234, 235, 236, 237, 238, 239, 240], [0, 0, 0, 0, 0, 0, 0, 0, 0, 0, 0, 0, 0, 0, 0], [0, 0, 0, 0, 0, 0, 0, 0, 0, 0, 0, 0, 0, 0, 0], [0, 0, 0, 0, 0, 0, 0, 0, 0, 0, 0, 0, 0, 0, 0], [0, 0, 0, 0, 0, 0, 0, 0, 0, 0, 0, 0, 0, 0, 0], [0, 0, 0, 0, 0, 0, 0, 0, 0, 0, 0, 0, 0, 0, 0], [0, 0, 0, 0, 0, 0, 0, 0, 0, 0, 0, 0, 0, 0, 0], [0, 0, 0, 0, 0, 0, 0, 0, 0, 0, 0, 0, 0, 0, 0], [0, 0, 0, 0, 0, 0, 0, 0, 0, 0, 0, 0, 0, 0, 0], [0, 0, 0, 0, 0, 0, 0, 0, 0, 0, 0, 0, 0, 0, 0], [0, 0, 0, 0, 0, 0, 0, 0, 0, 0, 0, 0, 0, 0, 0], [0, 0, 0, 0, 0, 0, 0, 0, 0, 0, 0, 0, 0, 0, 0], [], [243, 0, 0, 0, 0, 0, 0, 258], [244, 245, 0, 0, 0, 246, 247], [], [], [248, 249, 250, 251, 252, 253, 254, 255, 256, 257], [0, 0, 0, 0, 0, 0, 0, 0, 0, 0, 0, 0, 0, 0, 0], [0, 0, 0, 0, 0, 0, 0, 0, 0, 0, 0, 0, 0, 0, 0], [0, 0, 0, 0, 0, 0, 0, 0, 0, 0, 0, 0, 0, 0, 0], [0, 0, 0, 0, 0, 0, 0, 0, 0, 0, 0, 0, 0, 0, 0], [0, 0, 0, 0, 0, 0, 0, 0, 0, 0, 0, 0, 0, 0, 0], [0, 0, 0, 0, 0, 0, 0, 0, 0, 0, 0, 0, 0, 0, 0], [0, 0, 0, 0, 0, 0, 0, 0, 0, 0, 0, 0, 0, 0, 0], [0, 0, 0, 0, 0, 0, 0, 0, 0, 0, 0, 0, 0, 0, 0], [0, 0, 0, 0, 0, 0, 0, 0, 0, 0, 0, 0, 0, 0, 0], [0, 0, 0, 0, 0, 0, 0, 0, 0, 0, 0, 0, 0, 0, 0], [0, 0, 0, 0, 0, 0, 0, 0, 0, 0, 0, 0, 0, 0, 0], [], [260, 263], [0, 261, 262], [], [], [], [0, 0, 265, 266, 267, 268, 269, 395], [], [], [0, 0, 0, 0, 0, 268, 269, 391, 392, 393, 394], [0, 269, 0, 383, 384, 385, 386, 387, 388], [0, 270, 271, 281, 282], [283, 293, 303, 313, 323, 333, 343, 353, 363, 373], [0, 272, 273, 274, 275, 276, 277, 278, 0, 0, 0, 0, 279, 280], [], [], [], [], [], [], [], [], [], [], [], [0, 284, 285, 286, 287, 288, 289, 290, 0, 0, 0, 0, 291, 292], [], [], [], [], [], [], [], [], [], [0, 294, 295, 296, 297, 298, 299, 300, 0, 0, 0, 0, 301, 302], [], [], [], [], [], [], [], [], [], [0, 304, 305, 306, 307, 308, 309, 310, 0, 0, 0, 0, 311, 312], [], [], [], [], [], [], [], [], [], [0, 314, 315, 316, 317, 318, 319, 320, 0, 0, 0, 0, 321, 322], [], [], [], [], [], [], [], [], [], [0, 324, 325, 326, 327, 328, 329, 330, 0, 0, 0, 0, 331, 332], [], [], [], [], [], [], [], [], [], [0, 334, 335, 336, 337, 338, 339, 340, 0, 0, 0, 0, 341, 342], [], [], [], [], [], [], [], [], [], [0, 344, 345, 346, 347, 348, 349, 350, 0, 0, 0, 0, 351, 352], [], [], [], [], [], [], [], [], [], [0, 354, 355, 356, 357, 358, 359, 360, 0, 0, 0, 0, 361, 362], [], [], [], [], [], [], [], [], [], [0, 364, 365, 366, 367, 368, 369, 370, 0, 0, 0, 0, 371, 372], [], [], [], [], [], [], [], [], [], [0, 374, 375, 376, 377, 378, 379, 380, 0, 0, 0, 0, 381, 382], [], [], [], [], [], [], [], [], [], [], [], [], [], [], [0, 389, 390], [], [], [], [], [], [], [], [397, 398, 0, 0, 0, 399, 400], [], [], [401, 402, 403, 404, 405, 406, 407, 408, 409, 410], [0, 0, 0, 0, 0, 0, 0, 0, 0, 0, 0, 0, 0, 0, 0], [0, 0, 0, 0, 0, 0, 0, 0, 0, 0, 0, 0, 0, 0, 0], [0, 0, 0, 0, 0, 0, 0, 0, 0, 0, 0, 0, 0, 0, 0], [0, 0, 0, 0, 0, 0, 0, 0, 0, 0, 0, 0, 0, 0, 0], [0, 0, 0, 0, 0, 0, 0, 0, 0, 0, 0, 0, 0, 0, 0], [0, 0, 0, 0, 0, 0, 0, 0, 0, 0, 0, 0, 0, 0, 0], [0, 0, 0, 0, 0, 0, 0, 0, 0, 0, 0, 0, 0, 0, 0], [0, 0, 0, 0, 0, 0, 0, 0, 0, 0, 0, 0, 0, 0, 0], [0, 0, 0, 0, 0, 0, 0, 0, 0, 0, 0, 0, 0, 0, 0], [0, 0, 0, 0, 0, 0, 0, 0, 0, 0, 0, 0, 0, 0, 0], [0, 0, 0, 0, 0, 0, 0, 0, 0, 0, 0, 0, 0, 0, 0], [412, 413, 0, 0, 0, 414, 415], [], [], [416, 417, 418, 419, 420, 421, 422, 423, 424, 425], [0, 0, 0, 0, 0, 0, 0, 0, 0, 0, 0, 0, 0, 0, 0], [0, 0, 0, 0, 0, 0, 0, 0, 0, 0, 0, 0, 0, 0, 0], [0, 0, 0, 0, 0, 0, 0, 0, 0, 0, 0, 0, 0, 0, 0], [0, 0, 0, 0, 0, 0, 0, 0, 0, 0, 0, 0, 0, 0, 0], [0, 0, 0, 0, 0, 0, 0, 0, 0, 0, 0, 0, 0, 0, 0], [0, 0, 0, 0, 0, 0, 0, 0, 0, 0, 0, 0, 0, 0, 0], [0, 0, 0, 0, 0, 0, 0, 0, 0, 0, 0, 0, 0, 0, 0], [0, 0, 0, 0, 0, 0, 0, 0, 0, 0, 0, 0, 0, 0, 0], [0, 0, 0, 0, 0, 0, 0, 0, 0, 0, 0, 0, 0, 0, 0], [0, 0, 0, 0, 0, 0, 0, 0, 0, 0, 0, 0, 0, 0, 0], [0, 0, 0, 0, 0, 0, 0, 0, 0, 0, 0, 0, 0, 0, 0], [427, 428, 0, 429, 0, 430, 431, 432, 433, 434, 435, 436, 0, 0, 0, 437, 438, 439, 440, 441, 442, 443, 444, 445, 446, 0, 447, 0, 448, 449], [], [], [], [], [], [], [], [], [], [], [], [], [], [], [], [], [], [], [], [], [], [], []]
def ftyL : List (List Nat) := [[0, 0, 0, 0, 0, 2, 2, 2, 2, 2, 2], [2, 2], [0, 2, 2], [2, 2, 0, 0, 0, 2, 2], [0, 1, 2, 2, 2, 2, 2, 2], [0, 2, 2, 2, 2], [0, 0, 2, 2, 2], [0, 0, 0, 0, 0, 0, 0, 0, 0, 0, 0, 0, 0, 0, 0], [0, 2, 2, 2, 2, 2, 2, 2, 0, 0, 0, 0, 2, 2], [2, 0, 0, 0, 0, 0, 0, 2], [0, 2, 0, 2, 2, 2, 2, 2, 2], [2, 2, 2, 2, 2, 2, 2, 2, 2, 2, 2, 2, 2, 2, 0, 0], [2, 2, 0, 2, 0, 2, 2, 2, 2, 2, 2, 2, 0, 0, 0, 2, 2, 2, 2, 2, 2, 2, 2, 2, 2, 0, 2, 0, 2, 2]]
def kap (a : Nat) : Nat := kapL.getD a 99
def len (a : Nat) : Nat := lenL.getD a 0
def rho (a k : Nat) : Nat := (rhoL.getD a []).getD k 0
def fty (c : Nat) : List Nat := ftyL.getD c []
abbrev NX : Nat := 426
abbrev NN : Nat := 450
theorem kapL_len : kapL.length = NN := by decide +kernel
theorem kap_lt {a c : Nat} (h : kap a = c) (hc : c < 99) : a < NN := by
  rcases Nat.lt_or_ge a NN with q | q
  · exact q
  · have h1 : kapL.getD a 99 = 99 := by rw [List.getD_eq_getElem?_getD, List.getElem?_eq_none (by rw [kapL_len]; exact q)]; rfl
    unfold kap at h
    omega
theorem kap_all {c : Nat} (hc : c < 99) {P : Nat → Prop} (h : ∀ a, a < NN → kap a = c → P a) (a : Nat) (ha : kap a = c) : P a := h a (kap_lt ha hc) ha
end
section
/-! the world as one list of cells; the judgement J: a frame of a method, over the world -/
abbrev Mm : Type := (Nat → Nat → Int32) × (Nat → Nat → Int64)
abbrev Mf : Type := Mm × (Nat → Nat → Option Nat) × Nat × (Nat → Nat)
abbrev GT : Type := Launch × Nat × va_G × (Nat → ClassId) × (Nat → Nat)
def fv (w : Mf) (a k t : Nat) : Value := if t = 0 then .int (w.1.1 a k) else if t = 1 then .long (w.1.2 a k) else va_rf ((w.2.1 a k).map w.2.2.2)
def fvs (w : Mf) (a : Nat) : List Value := (fty (kap a)).mapIdx (fun k t => fv w a k t)
def ce (G : GT) (w : Mf) (a : Nat) : va_E :=
  if kap a < 20 then .inr (kap a, fvs w a)
  else if kap a < 22 then .inl (G.2.2.2.1 (kap a - 20), len a, .inl (w.1.1 a))
  else if kap a = 22 then .inl (G.2.2.2.1 2, len a, .inr (.inl (w.1.2 a)))
  else .inl (G.2.2.2.1 (kap a - 20), len a, .inr (.inr (.inr (.inr (fun i => (w.2.1 a i).map w.2.2.2)))))
def wsO (G : GT) (w : Mf) : va_W := (List.range w.2.2.1).map (fun a => (w.2.2.2 a, ce G w a))
def gA (G : GT) : Nat → Prop := fun q => G.2.1 ≤ q
def wd (G : GT) (w : Mf) (H : Heap) : Prop := va_P G.2.2.1 vwCl (wsO G w) H ∧ va_D (gA G) (wsO G w)
def tyO (G : GT) : List (ClassId × FieldType) := [(G.2.2.2.1 0, .int), (G.2.2.2.1 1, .boolean), (G.2.2.2.1 2, .long), (G.2.2.2.1 3, .object "DieLineChecker$Panel"), (G.2.2.2.1 4, .object "DieLineChecker$Design"), (G.2.2.2.1 5, .object "DieLineChecker$Pose"), (G.2.2.2.1 6, .array .int)]
theorem wsO_at {G : GT} {w : Mf} {a : Nat} (h : a < w.2.2.1) : (wsO G w)[a]? = some (w.2.2.2 a, ce G w a) := by
  unfold wsO
  rw [List.getElem?_map, List.getElem?_range h]
  rfl
theorem wsO_set {G : GT} {w w' : Mf} {a : Nat} (h2 : w'.2.2 = w.2.2) (ho : ∀ b, b ≠ a → ce G w' b = ce G w b) : (wsO G w).set a (w.2.2.2 a, ce G w' a) = wsO G w' := by
  unfold wsO
  rw [h2]
  apply List.ext_getElem?
  intro i
  by_cases hi : i = a
  · subst hi
    by_cases hl : i < w.2.2.1
    · rw [List.getElem?_set_self (by simpa using hl), List.getElem?_map, List.getElem?_range hl]
      rfl
    · rw [List.getElem?_eq_none (by simpa using hl), List.getElem?_eq_none (by simpa using hl)]
  · rw [List.getElem?_set_ne (Ne.symm hi), List.getElem?_map, List.getElem?_map]
    by_cases hl : i < w.2.2.1
    · rw [List.getElem?_range hl]
      show some (_, _) = some (_, _)
      rw [ho i hi]
    · rw [List.getElem?_eq_none (by simpa using hl)]
      rfl
-- writes
def upI (f : Nat → Nat → Int32) (a k : Nat) (x : Int32) : Nat → Nat → Int32 := fun b j => if b = a then (if j = k then x else f b j) else f b j
def upL (f : Nat → Nat → Int64) (a k : Nat) (x : Int64) : Nat → Nat → Int64 := fun b j => if b = a then (if j = k then x else f b j) else f b j
def wI (m : Mm) (a k : Nat) (x : Int32) : Mm := (upI m.1 a k x, m.2)
def wL (m : Mm) (a k : Nat) (x : Int64) : Mm := (m.1, upL m.2 a k x)
def fl (ad : Nat → Nat) (m : Mm) : Mf := (m, fun a k => some (rho a k), NN, ad)
theorem fvs_at {w : Mf} {a c k t : Nat} (hc : kap a = c) (hk : (fty c)[k]? = some t) : (fvs w a)[k]? = some (fv w a k t) := by
  unfold fvs
  rw [List.getElem?_mapIdx, hc, hk]
  rfl
theorem fvs_set {w w' : Mf} {a k : Nat} (v : Value) (hv : ∀ t, (fty (kap a))[k]? = some t → fv w' a k t = v) (ho : ∀ j t, j ≠ k → fv w' a j t = fv w a j t) : (fvs w a).set k v = fvs w' a := by
  unfold fvs
  apply List.ext_getElem?
  intro i
  by_cases hi : i = k
  · subst hi
    by_cases hl : i < (fty (kap a)).length
    · rw [List.getElem?_set_self (by simpa using hl), List.getElem?_mapIdx, List.getElem?_eq_getElem hl]
      exact congrArg some (hv _ (List.getElem?_eq_getElem hl)).symm
    · rw [List.getElem?_eq_none (by simpa using hl), List.getElem?_eq_none (by simpa using hl)]
  · rw [List.getElem?_set_ne (Ne.symm hi), List.getElem?_mapIdx, List.getElem?_mapIdx]
    cases (fty (kap a))[i]? with
    | none => rfl
    | some t => exact congrArg some (ho i t hi).symm
theorem ce_fo {G : GT} {w w' : Mf} {b : Nat} (h1 : w'.1.1 b = w.1.1 b) (h2 : w'.1.2 b = w.1.2 b) (h3 : w'.2.1 b = w.2.1 b) (h4 : w'.2.2.2 = w.2.2.2) : ce G w' b = ce G w b := by
  have hf : fvs w' b = fvs w b := by
    unfold fvs fv
    rw [h1, h2, h3, h4]
  unfold ce
  rw [hf, h1, h2, h3, h4]
/-! statics: four rows of four numbers that nobody writes -/
def szC (k : Nat) : String × String := if k = 0 then ("DieLineChecker$Pose", "SIDE_BEGIN") else if k = 1 then ("DieLineChecker$Pose", "SIDE_END") else if k = 2 then ("DieLineChecker", "OUT_X") else ("DieLineChecker", "OUT_Y")
def szL : List (List Int32) := [[0, 1, 3, 0], [1, 2, 2, 3], [0, 1, 0, -1], [-1, 0, 1, 0]]
def szv (k j : Nat) : Int32 := (szL.getD k []).getD j 0
def SZ (G : GT) (U : State) (H : Heap) : Prop := ∀ k, k < 4 → va_Z (szC k).1 (szC k).2 "[I" (.ref (G.2.2.2.2 k)) (gA G) U H ∧ va_T .int (G.2.2.2.2 k) 4 (fun j => .int (szv k j)) (gA G) U H
/-! an activation -/
abbrev XT : Type := GT × Program × Env × Room × State × MethodId × Array Value × List Frame × Method × Code × (State → Prop)
abbrev xp (X : XT) := X.2.1
abbrev xe (X : XT) := X.2.2.1
abbrev xR (X : XT) := X.2.2.2.1
abbrev xs (X : XT) := X.2.2.2.2.1
abbrev xm (X : XT) := X.2.2.2.2.2.1
abbrev xa (X : XT) := X.2.2.2.2.2.2.1
abbrev xb (X : XT) := X.2.2.2.2.2.2.2.1
abbrev xh (X : XT) := X.2.2.2.2.2.2.2.2.1
abbrev xc (X : XT) := X.2.2.2.2.2.2.2.2.2.1
abbrev xQ (X : XT) := X.2.2.2.2.2.2.2.2.2.2
def J (X : XT) (q : Nat × Nat) (pc : Nat) (lv : List (Nat × Value)) (st : List Value) (w : Mf) : Prop :=
  ∀ (H : Heap) (ls : Array Slot) (locs : List Loc), wd X.1 w H → lv_has ls (xc X).maxLocals lv → va_S (gA X.1) (xs X).heap H locs →
    W (xp X) X.1.1 (xe X) (xR X) (xs X) (xm X) (xa X) (xb X) (xh X) (xc X) H locs q.1 q.2 (xQ X) (F0 (xm X) pc ls st)
/-! the words that every method has: those that stay by themselves, and the nest's, carried -/
def lw_ok : List Cond := lw_tbl.filter goodWord
theorem lw_good : GoodIn lw_ok lw_ok := fun w hw => ⟨hw, good_of_word (List.mem_filter.mp hw).2⟩
theorem lw_in {w : Cond} (h : w ∈ lw_tbl) (hg : goodWord w = true) : w ∈ lw_ok := List.mem_filter.mpr ⟨h, hg⟩
def isNs : Cond → Bool
  | .methodLinkNest .. => true
  | .fieldLinkNest .. => true
  | _ => false
def nsL : List Cond := lw_tbl.filter isNs
def TB (U : State) : Prop := (∀ z ∈ nsL, va_Nw z U) ∧ va_AO "DieLineChecker$Panel" U ∧ va_AO "DieLineChecker$Design" U ∧ va_AO "DieLineChecker$Pose" U
theorem TB.warm {s U : State} (hW : s.WarmedH U.vm) (h : TB s) : TB U := by
  refine ⟨fun z hz => ?_, h.2.1.moved hW.alike, h.2.2.1.moved hW.alike, h.2.2.2.moved hW.alike⟩
  have h1 := h.1 z hz
  have h2 := (List.mem_filter.mp hz).2
  cases z <;> first | exact va_Nw.warmM hW h1 | exact va_Nw.warmF hW h1 | (cases h2; done)
theorem TB.same {u U : State} (e : u.vm = U.vm) (h : TB u) : TB U := by
  refine ⟨fun z hz => ?_, h.2.1.moved (by rw [e]; exact Vm.Alike.refl _), h.2.2.1.moved (by rw [e]; exact Vm.Alike.refl _), h.2.2.2.moved (by rw [e]; exact Vm.Alike.refl _)⟩
  have h1 := h.1 z hz
  have h2 := (List.mem_filter.mp hz).2
  cases z <;> first | exact va_Nw.same rfl e h1 | (cases h2; done)
def Cx (X : XT) (cc : ByteArray) (nL : Nat) (own : String) (rm : Room) : Prop :=
  (xp X).tables.exec = Jvm.exec ∧ (xc X).code = cc ∧ (xc X).maxLocals = nL ∧ (xs X).vm.findClass own = some (xm X).cls ∧ (∀ z ∈ lw_ok, z.before (xa X) (xs X) = true) ∧
  va_K X.1.2.2.1 vwCl (tyO X.1) (xs X) ∧ SZ X.1 (xs X) (xs X).heap ∧ X.1.2.1 ≤ (xs X).heap.size ∧ TB (xs X) ∧ xR X = rm
def QcN (G : GT) (K : Option Value → Mf → Prop) : Array Value → State → Outcome → State → Prop := fun _ st oc t => (∃ (v : Option Value) (w : Mf), oc = .returned v ∧ K v w ∧ wd G w t.heap) ∧ va_F (gA G) st t
def PcN (G : GT) (av : List Value) (w : Mf) : Array Value → State → Prop := va_Pc av (fun U => wd G w U.heap ∧ va_K G.2.2.1 vwCl (tyO G) U ∧ SZ G U U.heap ∧ G.2.1 ≤ U.heap.size ∧ TB U)
def Rx (X : XT) (ret : Option FieldType) (K : Option Value → Mf → Prop) (q : Nat × Nat) : Prop :=
  (xh X).sig.returnType = ret ∧ (xh X).locks = false ∧ xQ X = MQ (xb X) (QcN X.1 K) (xa X) (xs X) q.1 q.2 (gA X.1)
def Cn (G : GT) (y : MethodName) (cc : ByteArray) (nL : Nat) (ret : Option FieldType) (rm : Room) (av : List Value) (q : Nat × Nat) (w : Mf) (K : Option Value → Mf → Prop) : Prop :=
  Met G.1 y (Cond.code y cc nL ret :: lw_ok) rm (PcN G av w) (QcN G K) q.1 q.2 (gA G)
theorem SZ.moved {G : GT} {u U : State} {H : Heap} (hvm : u.vm.Alike U.vm) (h : SZ G u H) : SZ G U H := fun k hk => ⟨(h k hk).1.moved hvm, (h k hk).2.moved hvm⟩
theorem SZ.kept {G : GT} {U : State} {H H1 : Heap} (h : SZ G U H) (hq : ∀ a : Nat, a < H.size → ¬ gA G a → H1[a]? = H[a]?) : SZ G U H1 := fun k hk => ⟨(h k hk).1.kept hq, (h k hk).2.kept hq⟩
theorem PcN.blind {G : GT} {av : List Value} {w : Mf} : FrameBlind (PcN G av w) := by
  intro a U g mk h
  obtain ⟨h1, h2, h3, h4, h5, h6⟩ := h
  exact ⟨h1, h2, va_K.moved (u := U) (U := U.calling g mk a) (Vm.Alike.refl U.vm) h3, SZ.moved (u := U) (U := U.calling g mk a) (Vm.Alike.refl U.vm) h4, h5, TB.same (u := U) (U := U.calling g mk a) rfl h6⟩
/-- a method's start -/
theorem Cn.of {G : GT} {y : MethodName} {cc : ByteArray} {nL : Nat} {ret : Option FieldType} {rm : Room} {av : List Value} {q : Nat × Nat} {w : Mf} {K : Option Value → Mf → Prop} (hy : plainName y.cls = true) (hl : (lg_sl av).length ≤ nL)
    (h : ∀ X : XT, X.1 = G → Cx X cc nL y.cls rm → Rx X ret K q → J X (0, 0) 0 (lv_args 0 av) [] w) : Cn G y cc nL ret rm av q w K := by
  refine Met.ofW (cc := cc) (maxL := nL) (ret := ret) hy rfl ?_
  intro p e s m args below meth c s₁ B hml hv
  obtain ⟨rfl, h2, h3, h4, h5, h6⟩ := hv
  have hts := atoms_spec (ws := Cond.code y cc nL ret :: lw_ok) B.pre
  have hJ := h (G, p, e, rm, s, m, av.toArray, below, meth, c, MQ below (QcN G K) av.toArray s q.1 q.2 (gA G)) rfl ⟨B.exec, B.bytes, hml, findClass_of_methodNamed B.named, fun z hz => hts z (List.mem_cons_of_mem _ hz), h3, h4, h5, h6, rfl⟩ ⟨B.returns, B.notSynchronized, rfl⟩
  have hle := lv_entry av (n := nL) hl
  rw [lg_entry_eq]
  exact hJ s.heap _ [] h2 (by show lv_has _ c.maxLocals _; rw [hml]; exact hle) va_S.rf
def bo (x : Int32) : Prop := x = 0 ∨ x = 1
theorem bo_and {x : Int32} (h : bo x) : x &&& 1 = x := by rcases h with rfl | rfl <;> decide
theorem bo_0 : bo 0 := Or.inl rfl
theorem bo_1 : bo 1 := Or.inr rfl
theorem bo_ite {c : Prop} {_ : Decidable c} {x y : Int32} (h1 : bo x) (h2 : bo y) : bo (if c then x else y) := by split <;> assumption
end
section
section JR
variable {X : XT} {q : Nat × Nat} {pc : Nat} {lv lv2 : List (Nat × Value)} {st : List Value} {w : Mf} {cc : ByteArray} {nL : Nat} {own : String} {rm : Room}
theorem J_sub (ks : List Nat) (h : lv_pick lv ks = lv2) (kk : J X q pc lv2 st w) : J X q pc lv st w := fun H ls locs hw hl hS => kk H ls locs hw (lv_sub hl ks h) hS
theorem J_nmI {x : Int32} (kk : ∀ y : Int32, y = x → J X q pc lv (.int y :: st) w) : J X q pc lv (.int x :: st) w := kk x rfl
theorem J_nmL {x : Int64} (kk : ∀ y : Int64, y = x → J X q pc lv (.long y :: st) w) : J X q pc lv (.long x :: st) w := kk x rfl
theorem J_nmM {ad : Nat → Nat} {m : Mm} (kk : ∀ m2 : Mm, m2 = m → J X q pc lv st (fl ad m2)) : J X q pc lv st (fl ad m) := kk m rfl
theorem J_iload_n (hX : Cx X cc nL own rm) {k : Fin 4} {i : Nat} {x : Int32} (hd : decode cc pc = .ok (.iload_n k, 1)) (hi : (k : Nat) = i) (j : Nat) (hv : lv[j]? = some (i, .int x)) (kk : J X q (pc + 1) lv (.int x :: st) w) : J X q pc lv (st) w := fun H ls locs hw hl hS => lv_iload_n hX.1 hX.2.1 hd hi (lv_at hl j hv) (kk H ls locs hw hl hS)
theorem J_iload (hX : Cx X cc nL own rm) {i : Nat} {x : Int32} (hd : decode cc pc = .ok (.iload i, 2)) (j : Nat) (hv : lv[j]? = some (i, .int x)) (kk : J X q (pc + 2) lv (.int x :: st) w) : J X q pc lv (st) w := fun H ls locs hw hl hS => lv_iload hX.1 hX.2.1 hd (lv_at hl j hv) (kk H ls locs hw hl hS)
theorem J_lload_n (hX : Cx X cc nL own rm) {k : Fin 4} {i : Nat} {x : Int64} (hd : decode cc pc = .ok (.lload_n k, 1)) (hi : (k : Nat) = i) (j : Nat) (hv : lv[j]? = some (i, .long x)) (kk : J X q (pc + 1) lv (.long x :: st) w) : J X q pc lv (st) w := fun H ls locs hw hl hS => lv_lload_n hX.1 hX.2.1 hd hi (lv_at hl j hv) (kk H ls locs hw hl hS)
theorem J_lload (hX : Cx X cc nL own rm) {i : Nat} {x : Int64} (hd : decode cc pc = .ok (.lload i, 2)) (j : Nat) (hv : lv[j]? = some (i, .long x)) (kk : J X q (pc + 2) lv (.long x :: st) w) : J X q pc lv (st) w := fun H ls locs hw hl hS => lv_lload hX.1 hX.2.1 hd (lv_at hl j hv) (kk H ls locs hw hl hS)
theorem J_aload_n (hX : Cx X cc nL own rm) {k : Fin 4} {i : Nat} {x : Nat} (hd : decode cc pc = .ok (.aload_n k, 1)) (hi : (k : Nat) = i) (j : Nat) (hv : lv[j]? = some (i, .ref x)) (kk : J X q (pc + 1) lv (.ref x :: st) w) : J X q pc lv (st) w := fun H ls locs hw hl hS => lv_aload_n hX.1 hX.2.1 hd hi (lv_at hl j hv) (kk H ls locs hw hl hS)
theorem J_aload (hX : Cx X cc nL own rm) {i : Nat} {x : Nat} (hd : decode cc pc = .ok (.aload i, 2)) (j : Nat) (hv : lv[j]? = some (i, .ref x)) (kk : J X q (pc + 2) lv (.ref x :: st) w) : J X q pc lv (st) w := fun H ls locs hw hl hS => lv_aload hX.1 hX.2.1 hd (lv_at hl j hv) (kk H ls locs hw hl hS)
theorem J_istore_n (hX : Cx X cc nL own rm) {k : Fin 4} {i : Nat} {x : Int32} (hd : decode cc pc = .ok (.istore_n k, 1)) (hi : (k : Nat) = i) (hn : i < nL) (hf : (i, Value.int x) :: lv.filter (fun q => !(q.1 == i) && !(q.1 + 1 == i && q.2.category == 2)) = lv2) (kk : J X q (pc + 1) lv2 st w) : J X q pc lv (.int x :: st) w := fun H ls locs hw hl hS => lv_istore_n hX.1 hX.2.1 hd hi hl (by rw [hX.2.2.1]; exact hn) hf (fun ls2 hl2 => kk H ls2 locs hw hl2 hS)
theorem J_istore (hX : Cx X cc nL own rm) {i : Nat} {x : Int32} (hd : decode cc pc = .ok (.istore i, 2)) (hn : i < nL) (hf : (i, Value.int x) :: lv.filter (fun q => !(q.1 == i) && !(q.1 + 1 == i && q.2.category == 2)) = lv2) (kk : J X q (pc + 2) lv2 st w) : J X q pc lv (.int x :: st) w := fun H ls locs hw hl hS => lv_istore hX.1 hX.2.1 hd hl (by rw [hX.2.2.1]; exact hn) hf (fun ls2 hl2 => kk H ls2 locs hw hl2 hS)
theorem J_lstore_n (hX : Cx X cc nL own rm) {k : Fin 4} {i : Nat} {x : Int64} (hd : decode cc pc = .ok (.lstore_n k, 1)) (hi : (k : Nat) = i) (hn : i + 1 < nL) (hf : (i, Value.long x) :: lv.filter (fun q => !(q.1 == i) && (!(q.1 == i + 1) && !(q.1 + 1 == i && q.2.category == 2))) = lv2) (kk : J X q (pc + 1) lv2 st w) : J X q pc lv (.long x :: st) w := fun H ls locs hw hl hS => lv_lstore_n hX.1 hX.2.1 hd hi hl (by rw [hX.2.2.1]; exact hn) hf (fun ls2 hl2 => kk H ls2 locs hw hl2 hS)
theorem J_lstore (hX : Cx X cc nL own rm) {i : Nat} {x : Int64} (hd : decode cc pc = .ok (.lstore i, 2)) (hn : i + 1 < nL) (hf : (i, Value.long x) :: lv.filter (fun q => !(q.1 == i) && (!(q.1 == i + 1) && !(q.1 + 1 == i && q.2.category == 2))) = lv2) (kk : J X q (pc + 2) lv2 st w) : J X q pc lv (.long x :: st) w := fun H ls locs hw hl hS => lv_lstore hX.1 hX.2.1 hd hl (by rw [hX.2.2.1]; exact hn) hf (fun ls2 hl2 => kk H ls2 locs hw hl2 hS)
theorem J_astore_n (hX : Cx X cc nL own rm) {k : Fin 4} {i : Nat} {x : Nat} (hd : decode cc pc = .ok (.astore_n k, 1)) (hi : (k : Nat) = i) (hn : i < nL) (hf : (i, Value.ref x) :: lv.filter (fun q => !(q.1 == i) && !(q.1 + 1 == i && q.2.category == 2)) = lv2) (kk : J X q (pc + 1) lv2 st w) : J X q pc lv (.ref x :: st) w := fun H ls locs hw hl hS => lv_astore_n hX.1 hX.2.1 hd hi hl (by rw [hX.2.2.1]; exact hn) hf (fun ls2 hl2 => kk H ls2 locs hw hl2 hS)
theorem J_astore (hX : Cx X cc nL own rm) {i : Nat} {x : Nat} (hd : decode cc pc = .ok (.astore i, 2)) (hn : i < nL) (hf : (i, Value.ref x) :: lv.filter (fun q => !(q.1 == i) && !(q.1 + 1 == i && q.2.category == 2)) = lv2) (kk : J X q (pc + 2) lv2 st w) : J X q pc lv (.ref x :: st) w := fun H ls locs hw hl hS => lv_astore hX.1 hX.2.1 hd hl (by rw [hX.2.2.1]; exact hn) hf (fun ls2 hl2 => kk H ls2 locs hw hl2 hS)
theorem J_iinc (hX : Cx X cc nL own rm) {i : Nat} {n : Int} {y x : Int32} (hd : decode cc pc = .ok (.iinc i n, 3)) (j : Nat) (hv : lv[j]? = some (i, .int y)) (hx : y + Int32.ofInt n = x) (hn : i < nL) (hf : (i, Value.int x) :: lv.filter (fun q => !(q.1 == i) && !(q.1 + 1 == i && q.2.category == 2)) = lv2) (kk : J X q (pc + 3) lv2 st w) : J X q pc lv st w := fun H ls locs hw hl hS => lv_iinc hX.1 hX.2.1 hd hl hv hx (by rw [hX.2.2.1]; exact hn) hf (fun ls2 hl2 => kk H ls2 locs hw hl2 hS)
theorem J_iconst (hX : Cx X cc nL own rm) {n : Int} {v : Int32} (hd : decode cc pc = .ok (.iconst n, 1)) (hv : Int32.ofInt n = v) (kk : J X q (pc + 1) lv (.int v :: st) w) : J X q pc lv (st) w := fun H ls locs hw hl hS => lv_iconst hX.1 hX.2.1 hd hv (kk H ls locs hw hl hS)
theorem J_bipush (hX : Cx X cc nL own rm) {n : Int} {v : Int32} (hd : decode cc pc = .ok (.bipush n, 2)) (hv : (Int8.ofInt n).toInt32 = v) (kk : J X q (pc + 2) lv (.int v :: st) w) : J X q pc lv (st) w := fun H ls locs hw hl hS => lv_bipush hX.1 hX.2.1 hd hv (kk H ls locs hw hl hS)
theorem J_sipush (hX : Cx X cc nL own rm) {n : Int} {v : Int32} (hd : decode cc pc = .ok (.sipush n, 3)) (hv : (Int16.ofInt n).toInt32 = v) (kk : J X q (pc + 3) lv (.int v :: st) w) : J X q pc lv (st) w := fun H ls locs hw hl hS => lv_sipush hX.1 hX.2.1 hd hv (kk H ls locs hw hl hS)
theorem J_lconst (hX : Cx X cc nL own rm) {n : Fin 2} {v : Int64} (hd : decode cc pc = .ok (.lconst n, 1)) (hv : Int64.ofNat (n : Nat) = v) (kk : J X q (pc + 1) lv (.long v :: st) w) : J X q pc lv (st) w := fun H ls locs hw hl hS => lv_lconst hX.1 hX.2.1 hd hv (kk H ls locs hw hl hS)
theorem J_iadd (hX : Cx X cc nL own rm) {x y : Int32} (hd : decode cc pc = .ok (.iadd, 1)) (kk : J X q (pc + 1) lv (.int (x + y) :: st) w) : J X q pc lv (.int y :: .int x :: st) w := fun H ls locs hw hl hS => lv_iadd hX.1 hX.2.1 hd (kk H ls locs hw hl hS)
theorem J_isub (hX : Cx X cc nL own rm) {x y : Int32} (hd : decode cc pc = .ok (.isub, 1)) (kk : J X q (pc + 1) lv (.int (x - y) :: st) w) : J X q pc lv (.int y :: .int x :: st) w := fun H ls locs hw hl hS => lv_isub hX.1 hX.2.1 hd (kk H ls locs hw hl hS)
theorem J_imul (hX : Cx X cc nL own rm) {x y : Int32} (hd : decode cc pc = .ok (.imul, 1)) (kk : J X q (pc + 1) lv (.int (x * y) :: st) w) : J X q pc lv (.int y :: .int x :: st) w := fun H ls locs hw hl hS => lv_imul hX.1 hX.2.1 hd (kk H ls locs hw hl hS)
theorem J_iand (hX : Cx X cc nL own rm) {x y : Int32} (hd : decode cc pc = .ok (.iand, 1)) (kk : J X q (pc + 1) lv (.int (x &&& y) :: st) w) : J X q pc lv (.int y :: .int x :: st) w := fun H ls locs hw hl hS => lv_iand hX.1 hX.2.1 hd (kk H ls locs hw hl hS)
theorem J_ior (hX : Cx X cc nL own rm) {x y : Int32} (hd : decode cc pc = .ok (.ior, 1)) (kk : J X q (pc + 1) lv (.int (x ||| y) :: st) w) : J X q pc lv (.int y :: .int x :: st) w := fun H ls locs hw hl hS => lv_ior hX.1 hX.2.1 hd (kk H ls locs hw hl hS)
theorem J_ixor (hX : Cx X cc nL own rm) {x y : Int32} (hd : decode cc pc = .ok (.ixor, 1)) (kk : J X q (pc + 1) lv (.int (x ^^^ y) :: st) w) : J X q pc lv (.int y :: .int x :: st) w := fun H ls locs hw hl hS => lv_ixor hX.1 hX.2.1 hd (kk H ls locs hw hl hS)
theorem J_ishl (hX : Cx X cc nL own rm) {x y : Int32} (hd : decode cc pc = .ok (.ishl, 1)) (kk : J X q (pc + 1) lv (.int (x <<< (y &&& 31)) :: st) w) : J X q pc lv (.int y :: .int x :: st) w := fun H ls locs hw hl hS => lv_ishl hX.1 hX.2.1 hd (kk H ls locs hw hl hS)
theorem J_ishr (hX : Cx X cc nL own rm) {x y : Int32} (hd : decode cc pc = .ok (.ishr, 1)) (kk : J X q (pc + 1) lv (.int (x >>> (y &&& 31)) :: st) w) : J X q pc lv (.int y :: .int x :: st) w := fun H ls locs hw hl hS => lv_ishr hX.1 hX.2.1 hd (kk H ls locs hw hl hS)
theorem J_idiv (hX : Cx X cc nL own rm) {x y : Int32} (hd : decode cc pc = .ok (.idiv, 1)) (hne : ¬ y = 0) (kk : J X q (pc + 1) lv (.int (x / y) :: st) w) : J X q pc lv (.int y :: .int x :: st) w := fun H ls locs hw hl hS => lv_idiv hX.1 hX.2.1 hd hne (kk H ls locs hw hl hS)
theorem J_irem (hX : Cx X cc nL own rm) {x y : Int32} (hd : decode cc pc = .ok (.irem, 1)) (hne : ¬ y = 0) (kk : J X q (pc + 1) lv (.int (x - x / y * y) :: st) w) : J X q pc lv (.int y :: .int x :: st) w := fun H ls locs hw hl hS => lv_irem hX.1 hX.2.1 hd hne (kk H ls locs hw hl hS)
theorem J_ineg (hX : Cx X cc nL own rm) {x : Int32} (hd : decode cc pc = .ok (.ineg, 1)) (kk : J X q (pc + 1) lv (.int (-x) :: st) w) : J X q pc lv (.int x :: st) w := fun H ls locs hw hl hS => lv_ineg hX.1 hX.2.1 hd (kk H ls locs hw hl hS)
theorem J_ladd (hX : Cx X cc nL own rm) {x y : Int64} (hd : decode cc pc = .ok (.ladd, 1)) (kk : J X q (pc + 1) lv (.long (x + y) :: st) w) : J X q pc lv (.long y :: .long x :: st) w := fun H ls locs hw hl hS => lv_ladd hX.1 hX.2.1 hd (kk H ls locs hw hl hS)
theorem J_lsub (hX : Cx X cc nL own rm) {x y : Int64} (hd : decode cc pc = .ok (.lsub, 1)) (kk : J X q (pc + 1) lv (.long (x - y) :: st) w) : J X q pc lv (.long y :: .long x :: st) w := fun H ls locs hw hl hS => lv_lsub hX.1 hX.2.1 hd (kk H ls locs hw hl hS)
theorem J_lmul (hX : Cx X cc nL own rm) {x y : Int64} (hd : decode cc pc = .ok (.lmul, 1)) (kk : J X q (pc + 1) lv (.long (x * y) :: st) w) : J X q pc lv (.long y :: .long x :: st) w := fun H ls locs hw hl hS => lv_lmul hX.1 hX.2.1 hd (kk H ls locs hw hl hS)
theorem J_lor (hX : Cx X cc nL own rm) {x y : Int64} (hd : decode cc pc = .ok (.lor, 1)) (kk : J X q (pc + 1) lv (.long (x ||| y) :: st) w) : J X q pc lv (.long y :: .long x :: st) w := fun H ls locs hw hl hS => lv_lor hX.1 hX.2.1 hd (kk H ls locs hw hl hS)
theorem J_ldiv (hX : Cx X cc nL own rm) {x y : Int64} (hd : decode cc pc = .ok (.ldiv, 1)) (hne : ¬ y = 0) (kk : J X q (pc + 1) lv (.long (x / y) :: st) w) : J X q pc lv (.long y :: .long x :: st) w := fun H ls locs hw hl hS => lv_ldiv hX.1 hX.2.1 hd hne (kk H ls locs hw hl hS)
theorem J_lneg (hX : Cx X cc nL own rm) {x : Int64} (hd : decode cc pc = .ok (.lneg, 1)) (kk : J X q (pc + 1) lv (.long (-x) :: st) w) : J X q pc lv (.long x :: st) w := fun H ls locs hw hl hS => lv_lneg hX.1 hX.2.1 hd (kk H ls locs hw hl hS)
theorem J_lshl (hX : Cx X cc nL own rm) {x : Int64} {y : Int32} (hd : decode cc pc = .ok (.lshl, 1)) (kk : J X q (pc + 1) lv (.long (x <<< (y.toInt64 &&& 63)) :: st) w) : J X q pc lv (.int y :: .long x :: st) w := fun H ls locs hw hl hS => lv_lshl hX.1 hX.2.1 hd rfl (kk H ls locs hw hl hS)
theorem J_lshr (hX : Cx X cc nL own rm) {x : Int64} {y : Int32} (hd : decode cc pc = .ok (.lshr, 1)) (kk : J X q (pc + 1) lv (.long (x >>> (y.toInt64 &&& 63)) :: st) w) : J X q pc lv (.int y :: .long x :: st) w := fun H ls locs hw hl hS => lv_lshr hX.1 hX.2.1 hd rfl (kk H ls locs hw hl hS)
theorem J_i2l (hX : Cx X cc nL own rm) {x : Int32} (hd : decode cc pc = .ok (.i2l, 1)) (kk : J X q (pc + 1) lv (.long x.toInt64 :: st) w) : J X q pc lv (.int x :: st) w := fun H ls locs hw hl hS => lv_i2l hX.1 hX.2.1 hd rfl (kk H ls locs hw hl hS)
theorem J_l2i (hX : Cx X cc nL own rm) {x : Int64} (hd : decode cc pc = .ok (.l2i, 1)) (kk : J X q (pc + 1) lv (.int x.toInt32 :: st) w) : J X q pc lv (.long x :: st) w := fun H ls locs hw hl hS => lv_l2i hX.1 hX.2.1 hd rfl (kk H ls locs hw hl hS)
theorem J_lcmp (hX : Cx X cc nL own rm) {x y : Int64} (hd : decode cc pc = .ok (.lcmp, 1)) (kk : J X q (pc + 1) lv (.int (lg_cmp x y) :: st) w) : J X q pc lv (.long y :: .long x :: st) w := fun H ls locs hw hl hS => W.lcmp hX.1 hX.2.1 hd (kk H ls locs hw hl hS)
theorem J_dup (hX : Cx X cc nL own rm) {v : Value} (hd : decode cc pc = .ok (.dup, 1)) (hv : v.category = 1) (kk : J X q (pc + 1) lv (v :: v :: st) w) : J X q pc lv (v :: st) w := fun H ls locs hw hl hS => lv_dup hX.1 hX.2.1 hd hv (kk H ls locs hw hl hS)
theorem J_pop (hX : Cx X cc nL own rm) {v : Value} (hd : decode cc pc = .ok (.pop, 1)) (hv : v.category = 1) (kk : J X q (pc + 1) lv (st) w) : J X q pc lv (v :: st) w := fun H ls locs hw hl hS => lv_pop hX.1 hX.2.1 hd hv (kk H ls locs hw hl hS)
theorem J_dup2_11 (hX : Cx X cc nL own rm) {v u : Value} (hd : decode cc pc = .ok (.dup2, 1)) (hv : v.category = 1) (hu : u.category = 1) (kk : J X q (pc + 1) lv (v :: u :: v :: u :: st) w) : J X q pc lv (v :: u :: st) w := fun H ls locs hw hl hS => lv_dup2_11 hX.1 hX.2.1 hd hv hu (kk H ls locs hw hl hS)
theorem J_goto (hX : Cx X cc nL own rm) {off : Int} {tgt : Nat} (hd : decode cc pc = .ok (.goto off, 3)) (ht : (pc : Int) + off = (tgt : Int)) (kk : J X q tgt lv st w) : J X q pc lv st w := fun H ls locs hw hl hS => lv_goto hX.1 hX.2.1 hd ht (kk H ls locs hw hl hS)
theorem J_if_eq (hX : Cx X cc nL own rm) {x : Int32} {off : Int} {tgt : Nat} (hd : decode cc pc = .ok (.ifCond .eq off, 3)) (ht : (pc : Int) + off = (tgt : Int)) (kt : x = 0 → J X q tgt lv st w) (kf : ¬ x = 0 → J X q (pc + 3) lv st w) : J X q pc lv (.int x :: st) w := fun H ls locs hw hl hS => lv_if_eq hX.1 hX.2.1 hd ht (fun h => kt h H ls locs hw hl hS) (fun h => kf h H ls locs hw hl hS)
theorem J_if_ne (hX : Cx X cc nL own rm) {x : Int32} {off : Int} {tgt : Nat} (hd : decode cc pc = .ok (.ifCond .ne off, 3)) (ht : (pc : Int) + off = (tgt : Int)) (kt : ¬ x = 0 → J X q tgt lv st w) (kf : x = 0 → J X q (pc + 3) lv st w) : J X q pc lv (.int x :: st) w := fun H ls locs hw hl hS => lv_if_ne hX.1 hX.2.1 hd ht (fun h => kt h H ls locs hw hl hS) (fun h => kf h H ls locs hw hl hS)
theorem J_if_lt (hX : Cx X cc nL own rm) {x : Int32} {off : Int} {tgt : Nat} (hd : decode cc pc = .ok (.ifCond .lt off, 3)) (ht : (pc : Int) + off = (tgt : Int)) (kt : x < 0 → J X q tgt lv st w) (kf : ¬ x < 0 → J X q (pc + 3) lv st w) : J X q pc lv (.int x :: st) w := fun H ls locs hw hl hS => lv_if_lt hX.1 hX.2.1 hd ht (fun h => kt h H ls locs hw hl hS) (fun h => kf h H ls locs hw hl hS)
theorem J_if_ge (hX : Cx X cc nL own rm) {x : Int32} {off : Int} {tgt : Nat} (hd : decode cc pc = .ok (.ifCond .ge off, 3)) (ht : (pc : Int) + off = (tgt : Int)) (kt : 0 ≤ x → J X q tgt lv st w) (kf : ¬ 0 ≤ x → J X q (pc + 3) lv st w) : J X q pc lv (.int x :: st) w := fun H ls locs hw hl hS => lv_if_ge hX.1 hX.2.1 hd ht (fun h => kt h H ls locs hw hl hS) (fun h => kf h H ls locs hw hl hS)
theorem J_if_gt (hX : Cx X cc nL own rm) {x : Int32} {off : Int} {tgt : Nat} (hd : decode cc pc = .ok (.ifCond .gt off, 3)) (ht : (pc : Int) + off = (tgt : Int)) (kt : 0 < x → J X q tgt lv st w) (kf : ¬ 0 < x → J X q (pc + 3) lv st w) : J X q pc lv (.int x :: st) w := fun H ls locs hw hl hS => lv_if_gt hX.1 hX.2.1 hd ht (fun h => kt h H ls locs hw hl hS) (fun h => kf h H ls locs hw hl hS)
theorem J_if_le (hX : Cx X cc nL own rm) {x : Int32} {off : Int} {tgt : Nat} (hd : decode cc pc = .ok (.ifCond .le off, 3)) (ht : (pc : Int) + off = (tgt : Int)) (kt : x ≤ 0 → J X q tgt lv st w) (kf : ¬ x ≤ 0 → J X q (pc + 3) lv st w) : J X q pc lv (.int x :: st) w := fun H ls locs hw hl hS => lv_if_le hX.1 hX.2.1 hd ht (fun h => kt h H ls locs hw hl hS) (fun h => kf h H ls locs hw hl hS)
theorem J_icmp_eq (hX : Cx X cc nL own rm) {x y : Int32} {off : Int} {tgt : Nat} (hd : decode cc pc = .ok (.if_icmp .eq off, 3)) (ht : (pc : Int) + off = (tgt : Int)) (kt : x = y → J X q tgt lv st w) (kf : ¬ x = y → J X q (pc + 3) lv st w) : J X q pc lv (.int y :: .int x :: st) w := fun H ls locs hw hl hS => lv_icmp_eq hX.1 hX.2.1 hd ht (fun h => kt h H ls locs hw hl hS) (fun h => kf h H ls locs hw hl hS)
theorem J_icmp_ne (hX : Cx X cc nL own rm) {x y : Int32} {off : Int} {tgt : Nat} (hd : decode cc pc = .ok (.if_icmp .ne off, 3)) (ht : (pc : Int) + off = (tgt : Int)) (kt : ¬ x = y → J X q tgt lv st w) (kf : x = y → J X q (pc + 3) lv st w) : J X q pc lv (.int y :: .int x :: st) w := fun H ls locs hw hl hS => lv_icmp_ne hX.1 hX.2.1 hd ht (fun h => kt h H ls locs hw hl hS) (fun h => kf h H ls locs hw hl hS)
theorem J_icmp_lt (hX : Cx X cc nL own rm) {x y : Int32} {off : Int} {tgt : Nat} (hd : decode cc pc = .ok (.if_icmp .lt off, 3)) (ht : (pc : Int) + off = (tgt : Int)) (kt : x < y → J X q tgt lv st w) (kf : ¬ x < y → J X q (pc + 3) lv st w) : J X q pc lv (.int y :: .int x :: st) w := fun H ls locs hw hl hS => lv_icmp_lt hX.1 hX.2.1 hd ht (fun h => kt h H ls locs hw hl hS) (fun h => kf h H ls locs hw hl hS)
theorem J_icmp_ge (hX : Cx X cc nL own rm) {x y : Int32} {off : Int} {tgt : Nat} (hd : decode cc pc = .ok (.if_icmp .ge off, 3)) (ht : (pc : Int) + off = (tgt : Int)) (kt : y ≤ x → J X q tgt lv st w) (kf : ¬ y ≤ x → J X q (pc + 3) lv st w) : J X q pc lv (.int y :: .int x :: st) w := fun H ls locs hw hl hS => lv_icmp_ge hX.1 hX.2.1 hd ht (fun h => kt h H ls locs hw hl hS) (fun h => kf h H ls locs hw hl hS)
theorem J_icmp_gt (hX : Cx X cc nL own rm) {x y : Int32} {off : Int} {tgt : Nat} (hd : decode cc pc = .ok (.if_icmp .gt off, 3)) (ht : (pc : Int) + off = (tgt : Int)) (kt : y < x → J X q tgt lv st w) (kf : ¬ y < x → J X q (pc + 3) lv st w) : J X q pc lv (.int y :: .int x :: st) w := fun H ls locs hw hl hS => lv_icmp_gt hX.1 hX.2.1 hd ht (fun h => kt h H ls locs hw hl hS) (fun h => kf h H ls locs hw hl hS)
theorem J_icmp_le (hX : Cx X cc nL own rm) {x y : Int32} {off : Int} {tgt : Nat} (hd : decode cc pc = .ok (.if_icmp .le off, 3)) (ht : (pc : Int) + off = (tgt : Int)) (kt : x ≤ y → J X q tgt lv st w) (kf : ¬ x ≤ y → J X q (pc + 3) lv st w) : J X q pc lv (.int y :: .int x :: st) w := fun H ls locs hw hl hS => lv_icmp_le hX.1 hX.2.1 hd ht (fun h => kt h H ls locs hw hl hS) (fun h => kf h H ls locs hw hl hS)
theorem J_tabIn (hX : Cx X cc nL own rm) {dflt lo hi : Int} {offs : Array Int} {n : Nat} {x v : Int32} {off : Int} {tgt : Nat} (hd : decode cc pc = .ok (.tableswitch dflt lo hi offs, n)) (hx : x = v) (h1 : ¬ v.toInt < lo) (h2 : ¬ hi < v.toInt) (ho : offs[(v.toInt - lo).toNat]? = some off) (ht : (pc : Int) + off = (tgt : Int)) (kk : J X q tgt lv st w) : J X q pc lv (.int x :: st) w := by
  subst hx
  exact fun H ls locs hw hl hS => lv_tableIn hX.1 hX.2.1 hd h1 h2 ho ht (kk H ls locs hw hl hS)
theorem J_tabOut (hX : Cx X cc nL own rm) {dflt lo hi : Int} {offs : Array Int} {n : Nat} {x : Int32} {tgt : Nat} (hd : decode cc pc = .ok (.tableswitch dflt lo hi offs, n)) (h : x.toInt < lo ∨ hi < x.toInt) (ht : (pc : Int) + dflt = (tgt : Int)) (kk : J X q tgt lv st w) : J X q pc lv (.int x :: st) w := fun H ls locs hw hl hS => lv_tableOut hX.1 hX.2.1 hd h ht (kk H ls locs hw hl hS)
theorem J_lookIn (hX : Cx X cc nL own rm) {dflt : Int} {ps : Array (Int × Int)} {n : Nat} {x v : Int32} {off : Int} {tgt : Nat} (hd : decode cc pc = .ok (.lookupswitch dflt ps, n)) (hp : (ps.toList.zip (ps.toList.drop 1)).all (fun (a, next) => a.1 < next.1) = true) (hx : x = v) (ho : Op.lookupswitch.offset ps.toList dflt v.toInt = off) (ht : (pc : Int) + off = (tgt : Int)) (kk : J X q tgt lv st w) : J X q pc lv (.int x :: st) w := by
  subst hx
  exact fun H ls locs hw hl hS => lv_lookup hX.1 hX.2.1 hd hp ho ht (kk H ls locs hw hl hS)
theorem J_lookOut (hX : Cx X cc nL own rm) {dflt : Int} {ps : Array (Int × Int)} {n : Nat} {x : Int32} {off : Int} {tgt : Nat} (hd : decode cc pc = .ok (.lookupswitch dflt ps, n)) (hp : (ps.toList.zip (ps.toList.drop 1)).all (fun (a, next) => a.1 < next.1) = true) (ho : Op.lookupswitch.offset ps.toList dflt x.toInt = off) (ht : (pc : Int) + off = (tgt : Int)) (kk : J X q tgt lv st w) : J X q pc lv (.int x :: st) w := fun H ls locs hw hl hS => lv_lookup hX.1 hX.2.1 hd hp ho ht (kk H ls locs hw hl hS)
theorem J_ldc2 (hX : Cx X cc nL own rm) {index : Nat} {v : Int64} (hc : Cond.constantLong own index v ∈ lw_ok) (hd : decode cc pc = .ok (.ldc2_w index, 3)) (kk : J X q (pc + 3) lv (.long v :: st) w) : J X q pc lv st w := fun H ls locs hw hl hS => lv_ldc2 hX.1 hX.2.1 hX.2.2.2.1 (hX.2.2.2.2.1 _ hc) hd (kk H ls locs hw hl hS)
variable {K : Option Value → Mf → Prop}
theorem J_iret (hX : Cx X cc nL own rm) (hR : Rx X (some .int) K q) {v : Int32} (hd : decode cc pc = .ok (.ireturn, 1)) (hK : K (some (.int v)) w) : J X q pc lv [.int v] w := by
  intro H ls locs hw hl hS
  rw [hR.2.2]
  exact W.iret hX.1 hX.2.1 hR.1 (fun t ht _ => ⟨⟨_, w, rfl, hK, by rw [ht]; exact hw⟩, hS.F ht⟩) (fun z hz => hS.2.2 z hz) hd hR.2.1
theorem J_zret (hX : Cx X cc nL own rm) (hR : Rx X (some .boolean) K q) {v : Int32} (hd : decode cc pc = .ok (.ireturn, 1)) (hb : bo v) (hK : K (some (.int v)) w) : J X q pc lv [.int v] w := by
  intro H ls locs hw hl hS
  rw [hR.2.2]
  exact W.zret hX.1 hX.2.1 hR.1 (by show Value.int (v &&& 1) = .int v; rw [bo_and hb]) (fun t ht _ => ⟨⟨_, w, rfl, hK, by rw [ht]; exact hw⟩, hS.F ht⟩) (fun z hz => hS.2.2 z hz) hd hR.2.1
theorem J_lret (hX : Cx X cc nL own rm) (hR : Rx X (some .long) K q) {v : Int64} (hd : decode cc pc = .ok (.lreturn, 1)) (hK : K (some (.long v)) w) : J X q pc lv [.long v] w := by
  intro H ls locs hw hl hS
  rw [hR.2.2]
  exact W.lret hX.1 hX.2.1 hR.1 (fun t ht _ => ⟨⟨_, w, rfl, hK, by rw [ht]; exact hw⟩, hS.F ht⟩) (fun z hz => hS.2.2 z hz) hd hR.2.1
theorem J_vret (hX : Cx X cc nL own rm) (hR : Rx X none K q) (hd : decode cc pc = .ok (.return_, 1)) (hK : K none w) : J X q pc lv [] w := by
  intro H ls locs hw hl hS
  rw [hR.2.2]
  exact W.vret hX.1 hX.2.1 hR.1 (fun t ht _ => ⟨⟨_, w, rfl, hK, by rw [ht]; exact hw⟩, hS.F ht⟩) (fun z hz => hS.2.2 z hz) hd hR.2.1
theorem J_aret (hX : Cx X cc nL own rm) {C : String} (hR : Rx X (some (.object C)) K q) {a : Nat} (hd : decode cc pc = .ok (.areturn, 1)) (hK : K (some (.ref a)) w) : J X q pc lv [.ref a] w := by
  intro H ls locs hw hl hS
  rw [hR.2.2]
  exact W.aret hX.1 hX.2.1 hR.1 (Or.inl ⟨C, rfl⟩) (Or.inr ⟨a, rfl⟩) (fun t ht _ => ⟨⟨_, w, rfl, hK, by rw [ht]; exact hw⟩, hS.F ht⟩) (fun z hz => hS.2.2 z hz) hd hR.2.1
end JR
end
section
theorem u_ws_good {C : String} {T : u_T} {N : Nat} : ∀ z ∈ u_ws C T N, goodWord z = true := by
  intro z hz
  obtain ⟨k, -, rfl⟩ := List.mem_map.mp hz
  unfold u_lay
  split <;> rfl
/-- a field of a class by a place of a constant pool -/
def FOk (own : String) (index ci k : Nat) (fin : Bool) (t : FieldType) : Prop := ∃ (C : String) (T : u_T) (N : Nat) (ty : Nat → FieldType), vwCl[ci]? = some (C, T, N) ∧ (∀ z ∈ u_ws C T N, z ∈ lw_tbl) ∧ (∀ j, j < N → parseFieldDescriptor (T j).2.2.1 = some (ty j)) ∧ (∀ a, a < N → ∀ b, b < N → a ≠ b → (T a).2.1 ≠ (T b).2.1) ∧ k < N ∧ Cond.fieldLink own index (T k).1 (T k).2.1 (T k).2.2.1 ∈ lw_tbl ∧ (T k).2.2.2 = fin ∧ ty k = t ∧ (T k).1 = C
theorem ce_obj {G : GT} {w : Mf} {a c : Nat} (hc : kap a = c) (h : c < 20) : ce G w a = .inr (c, fvs w a) := by
  unfold ce
  rw [if_pos (by omega), hc]
theorem ce_int {G : GT} {w : Mf} {a n : Nat} (hc : kap a = 20) (hn : len a = n) : ce G w a = .inl (G.2.2.2.1 0, n, .inl (w.1.1 a)) := by
  unfold ce
  rw [if_neg (by omega), if_pos (by omega), hc, hn]
theorem ce_boo {G : GT} {w : Mf} {a n : Nat} (hc : kap a = 21) (hn : len a = n) : ce G w a = .inl (G.2.2.2.1 1, n, .inl (w.1.1 a)) := by
  unfold ce
  rw [if_neg (by omega), if_pos (by omega), hc, hn]
theorem ce_lon {G : GT} {w : Mf} {a n : Nat} (hc : kap a = 22) (hn : len a = n) : ce G w a = .inl (G.2.2.2.1 2, n, .inr (.inl (w.1.2 a))) := by
  unfold ce
  rw [if_neg (by omega), if_neg (by omega), if_pos (by omega), hn]
theorem ce_ref {G : GT} {w : Mf} {a n t : Nat} (hc : kap a = 23 + t) (hn : len a = n) : ce G w a = .inl (G.2.2.2.1 (3 + t), n, .inr (.inr (.inr (.inr (fun i => (w.2.1 a i).map w.2.2.2))))) := by
  unfold ce
  rw [if_neg (by omega), if_neg (by omega), if_neg (by omega), hc, hn, show 23 + t - 20 = 3 + t by omega]
theorem lw_okts {X : XT} {cc : ByteArray} {nL : Nat} {own : String} {rm : Room} (hX : Cx X cc nL own rm) {z : Cond} (h : z ∈ lw_tbl) (hg : goodWord z = true) : z.before (xa X) (xs X) = true := hX.2.2.2.2.1 z (lw_in h hg)
section JM
variable {X : XT} {q : Nat × Nat} {pc : Nat} {lv : List (Nat × Value)} {st : List Value} {w : Mf} {cc : ByteArray} {nL : Nat} {own : String} {rm : Room} {index ci k a : Nat} {fin : Bool} {t : FieldType}
theorem J_getG (hX : Cx X cc nL own rm) (F : FOk own index ci k fin t) (hd : decode cc pc = .ok (.getfield index, 3)) (hka : kap a = ci) (hci : ci < 20) {s : Nat} (hs : (fty ci)[k]? = some s) (ha : a < w.2.2.1) {r : Nat} (hr : w.2.2.2 a = r) {v : Value} (hv : fv w a k s = v) (kk : J X q (pc + 3) lv (v :: st) w) : J X q pc lv (.ref r :: st) w := by
  intro H ls locs hw hl hS
  obtain ⟨C, T, N, ty, hc, hin, hty, hnm, hk, hlink, hfin, ht, hC⟩ := F
  subst hr
  have he : (wsO X.1 w)[a]? = some (w.2.2.2 a, .inr (ci, fvs w a)) := by rw [wsO_at ha, ce_obj hka hci]
  exact va_get hX.1 hX.2.1 hX.2.2.2.2.1 (fun z hz => lw_in (hin z hz) (u_ws_good z hz)) hX.2.2.2.1 hX.2.2.2.2.2.1 hw.1 a he hc k hk (lw_okts hX hlink rfl) (fun x h => h) (by rw [fvs_at hka hs, hv]) hd (kk H ls locs hw hl hS)
theorem J_putG (hX : Cx X cc nL own rm) (F : FOk own index ci k false t) (hd : decode cc pc = .ok (.putfield index, 3)) (hka : kap a = ci) (hci : ci < 20) {s : Nat} (hs : (fty ci)[k]? = some s) (ha : a < w.2.2.1) {r : Nat} (hr : w.2.2.2 a = r) {v : Value} (hn : narrow t v = v) (hf : fits t v = true) {w2 : Mf} (h2 : w2.2.2 = w.2.2) (hv : fv w2 a k s = v) (ho : ∀ j u, j ≠ k → fv w2 a j u = fv w a j u) (hb : ∀ b, b ≠ a → ce X.1 w2 b = ce X.1 w b) (kk : J X q (pc + 3) lv st w2) : J X q pc lv (v :: .ref r :: st) w := by
  intro H ls locs hw hl hS
  obtain ⟨C, T, N, ty, hc, hin, hty, hnm, hk, hlink, hfin, ht, hC⟩ := F
  subst hr
  have he : (wsO X.1 w)[a]? = some (w.2.2.2 a, .inr (ci, fvs w a)) := by rw [wsO_at ha, ce_obj hka hci]
  have hset : (wsO X.1 w).set a (w.2.2.2 a, .inr (ci, (fvs w a).set k v)) = wsO X.1 w2 := by
    rw [fvs_set (w' := w2) v (fun u hu => by rw [hka, hs] at hu; cases hu; exact hv) ho, ← ce_obj (G := X.1) hka hci]
    exact wsO_set h2 hb
  have hlk : k < (fvs w a).length := by
    have h3 := fvs_at (w := w) hka hs
    exact (List.getElem?_eq_some_iff.mp h3).1
  refine va_put hX.1 hX.2.1 hX.2.2.2.2.1 (fun z hz => lw_in (hin z hz) (u_ws_good z hz)) ty hty hnm hX.2.2.2.1 hX.2.2.2.2.2.1 hw.1 hw.2 hS a he hc k hk (lw_okts hX hlink rfl) (fun x h => h) hfin (ty := t) (by rw [hty k hk, ht]) hn hf hlk hd (fun H1 locs1 hP hD hS1 => ?_)
  rw [hset] at hP hD
  exact kk H1 ls locs1 ⟨hP, hD⟩ hl hS1
end JM
theorem fl_up {ad : Nat → Nat} {m : Mm} {a k : Nat} {x : Int32} : (fl ad (wI m a k x)).1.1 = upI m.1 a k x := rfl
theorem upI_s (f : Nat → Nat → Int32) (a k : Nat) (x : Int32) : upI f a k x a k = x := by simp [upI]
theorem upI_j (f : Nat → Nat → Int32) (a k : Nat) (x : Int32) {j : Nat} (h : j ≠ k) : upI f a k x a j = f a j := by simp [upI, h]
theorem upI_b (f : Nat → Nat → Int32) (a k : Nat) (x : Int32) {b : Nat} (h : b ≠ a) : upI f a k x b = f b := by funext j; simp [upI, h]
theorem upI_a (f : Nat → Nat → Int32) (a k : Nat) (x : Int32) : upI f a k x a = upd (f a) k x := by funext j; simp [upI, upd]
theorem upL_s (f : Nat → Nat → Int64) (a k : Nat) (x : Int64) : upL f a k x a k = x := by simp [upL]
theorem upL_j (f : Nat → Nat → Int64) (a k : Nat) (x : Int64) {j : Nat} (h : j ≠ k) : upL f a k x a j = f a j := by simp [upL, h]
theorem upL_b (f : Nat → Nat → Int64) (a k : Nat) (x : Int64) {b : Nat} (h : b ≠ a) : upL f a k x b = f b := by funext j; simp [upL, h]
theorem upL_a (f : Nat → Nat → Int64) (a k : Nat) (x : Int64) : upL f a k x a = vp_updL (f a) k x := by funext j; simp [upL, vp_updL]
theorem ce_wI {G : GT} {ad : Nat → Nat} {m : Mm} {a k b : Nat} {x : Int32} (h : b ≠ a) : ce G (fl ad (wI m a k x)) b = ce G (fl ad m) b := ce_fo (upI_b _ _ _ _ h) rfl rfl rfl
theorem ce_wL {G : GT} {ad : Nat → Nat} {m : Mm} {a k b : Nat} {x : Int64} (h : b ≠ a) : ce G (fl ad (wL m a k x)) b = ce G (fl ad m) b := ce_fo rfl (upL_b _ _ _ _ h) rfl rfl
theorem fits_int (x : Int32) : fits .int (.int x) = true := by simp [fits]
theorem fits_boo (x : Int32) (h : bo x) : fits .boolean (.int x) = true := by rcases h with rfl | rfl <;> decide
theorem fits_lon (x : Int64) : fits .long (.long x) = true := by simp [fits]
section JN
variable {X : XT} {q : Nat × Nat} {pc : Nat} {lv : List (Nat × Value)} {st : List Value} {cc : ByteArray} {nL : Nat} {own : String} {rm : Room} {index ci k a n : Nat} {fin : Bool} {t : FieldType} {ad : Nat → Nat} {m : Mm}
theorem J_getI (hX : Cx X cc nL own rm) (F : FOk own index ci k fin t) (hd : decode cc pc = .ok (.getfield index, 3)) (hka : kap a = ci) (hci : ci < 20) (hs : (fty ci)[k]? = some 0) (kk : J X q (pc + 3) lv (.int (m.1 a k) :: st) (fl ad m)) : J X q pc lv (.ref (ad a) :: st) (fl ad m) :=
  J_getG hX F hd hka hci hs (kap_lt hka (by omega)) rfl rfl kk
theorem J_getL (hX : Cx X cc nL own rm) (F : FOk own index ci k fin t) (hd : decode cc pc = .ok (.getfield index, 3)) (hka : kap a = ci) (hci : ci < 20) (hs : (fty ci)[k]? = some 1) (kk : J X q (pc + 3) lv (.long (m.2 a k) :: st) (fl ad m)) : J X q pc lv (.ref (ad a) :: st) (fl ad m) :=
  J_getG hX F hd hka hci hs (kap_lt hka (by omega)) rfl rfl kk
theorem J_getR (hX : Cx X cc nL own rm) (F : FOk own index ci k fin t) (hd : decode cc pc = .ok (.getfield index, 3)) (hka : kap a = ci) (hci : ci < 20) (hs : (fty ci)[k]? = some 2) {b : Nat} (hb : rho a k = b) (kk : J X q (pc + 3) lv (.ref (ad b) :: st) (fl ad m)) : J X q pc lv (.ref (ad a) :: st) (fl ad m) := by
  subst hb
  exact J_getG hX F hd hka hci hs (kap_lt hka (by omega)) rfl rfl kk
theorem J_putI (hX : Cx X cc nL own rm) (F : FOk own index ci k false .int) (hd : decode cc pc = .ok (.putfield index, 3)) (hka : kap a = ci) (hci : ci < 20) (hs : (fty ci)[k]? = some 0) {x : Int32} (kk : J X q (pc + 3) lv st (fl ad (wI m a k x))) : J X q pc lv (.int x :: .ref (ad a) :: st) (fl ad m) := by
  refine J_putG hX F hd hka hci hs (kap_lt hka (by omega)) rfl rfl (fits_int x) (w2 := fl ad (wI m a k x)) rfl ?_ (fun j u hj => ?_) (fun b hb => ce_wI hb) kk
  · show Value.int (upI m.1 a k x a k) = _
    rw [upI_s]
  · unfold fv
    rw [fl_up, upI_j _ _ _ _ hj]
    rfl
theorem J_putZ (hX : Cx X cc nL own rm) (F : FOk own index ci k false .boolean) (hd : decode cc pc = .ok (.putfield index, 3)) (hka : kap a = ci) (hci : ci < 20) (hs : (fty ci)[k]? = some 0) {x : Int32} (hx : bo x) (kk : J X q (pc + 3) lv st (fl ad (wI m a k x))) : J X q pc lv (.int x :: .ref (ad a) :: st) (fl ad m) := by
  refine J_putG hX F hd hka hci hs (kap_lt hka (by omega)) rfl (by show Value.int (x &&& 1) = _; rw [bo_and hx]) (fits_boo x hx) (w2 := fl ad (wI m a k x)) rfl ?_ (fun j u hj => ?_) (fun b hb => ce_wI hb) kk
  · show Value.int (upI m.1 a k x a k) = _
    rw [upI_s]
  · unfold fv
    rw [fl_up, upI_j _ _ _ _ hj]
    rfl
theorem J_putL (hX : Cx X cc nL own rm) (F : FOk own index ci k false .long) (hd : decode cc pc = .ok (.putfield index, 3)) (hka : kap a = ci) (hci : ci < 20) (hs : (fty ci)[k]? = some 1) {x : Int64} (kk : J X q (pc + 3) lv st (fl ad (wL m a k x))) : J X q pc lv (.long x :: .ref (ad a) :: st) (fl ad m) := by
  refine J_putG hX F hd hka hci hs (kap_lt hka (by omega)) rfl rfl (fits_lon x) (w2 := fl ad (wL m a k x)) rfl ?_ (fun j u hj => ?_) (fun b hb => ce_wL hb) kk
  · show Value.long (upL m.2 a k x a k) = _
    rw [upL_s]
  · unfold fv
    show (if u = 0 then _ else if u = 1 then Value.long (upL m.2 a k x a j) else _) = _
    rw [upL_j _ _ _ _ hj]
    rfl
theorem wsO_fl {G : GT} {c : Nat} (hka : kap a = c) (hc : c < 99) : (wsO G (fl ad m))[a]? = some (ad a, ce G (fl ad m) a) := wsO_at (kap_lt hka hc)
theorem J_iald (hX : Cx X cc nL own rm) (hd : decode cc pc = .ok (.iaload, 1)) (hka : kap a = 20) (hn : len a = n) {i : Int32} (hin : vp_in i n) (kk : J X q (pc + 1) lv (.int (m.1 a i.toNatClampNeg) :: st) (fl ad m)) : J X q pc lv (.int i :: .ref (ad a) :: st) (fl ad m) := fun H ls locs hw hl hS =>
  va_iald hX.1 hX.2.1 hX.2.2.2.2.2.1 hw.1 a 0 ((wsO_fl hka (by omega)).trans (by rw [ce_int hka hn]; rfl)) rfl hin hd (kk H ls locs hw hl hS)
theorem J_zald (hX : Cx X cc nL own rm) (hd : decode cc pc = .ok (.baload, 1)) (hka : kap a = 21) (hn : len a = n) {i : Int32} (hin : vp_in i n) (kk : J X q (pc + 1) lv (.int (m.1 a i.toNatClampNeg) :: st) (fl ad m)) : J X q pc lv (.int i :: .ref (ad a) :: st) (fl ad m) := fun H ls locs hw hl hS =>
  va_zald hX.1 hX.2.1 hX.2.2.2.2.2.1 hw.1 a 1 ((wsO_fl hka (by omega)).trans (by rw [ce_boo hka hn]; rfl)) rfl hin hd (kk H ls locs hw hl hS)
theorem J_lald (hX : Cx X cc nL own rm) (hd : decode cc pc = .ok (.laload, 1)) (hka : kap a = 22) (hn : len a = n) {i : Int32} (hin : vp_in i n) (kk : J X q (pc + 1) lv (.long (m.2 a i.toNatClampNeg) :: st) (fl ad m)) : J X q pc lv (.int i :: .ref (ad a) :: st) (fl ad m) := fun H ls locs hw hl hS =>
  va_lald hX.1 hX.2.1 hX.2.2.2.2.2.1 hw.1 a 2 ((wsO_fl hka (by omega)).trans (by rw [ce_lon hka hn]; rfl)) rfl hin hd (kk H ls locs hw hl hS)
theorem J_aald (hX : Cx X cc nL own rm) (hd : decode cc pc = .ok (.aaload, 1)) {u : Nat} (hu : u < 3) (hka : kap a = 23 + u) (hn : len a = n) {i : Int32} (hin : vp_in i n) {b : Nat} (hb : rho a i.toNatClampNeg = b) (kk : J X q (pc + 1) lv (.ref (ad b) :: st) (fl ad m)) : J X q pc lv (.int i :: .ref (ad a) :: st) (fl ad m) := by
  subst hb
  intro H ls locs hw hl hS
  have he := (wsO_fl (G := X.1) (m := m) (ad := ad) hka (by omega)).trans (by rw [ce_ref hka hn])
  rcases (show u = 0 ∨ u = 1 ∨ u = 2 by omega) with rfl | rfl | rfl
  · exact va_aldq hX.1 hX.2.1 hX.2.2.2.2.2.1 hw.1 a 3 he rfl hin hd (kk H ls locs hw hl hS)
  · exact va_aldq hX.1 hX.2.1 hX.2.2.2.2.2.1 hw.1 a 4 he rfl hin hd (kk H ls locs hw hl hS)
  · exact va_aldq hX.1 hX.2.1 hX.2.2.2.2.2.1 hw.1 a 5 he rfl hin hd (kk H ls locs hw hl hS)
theorem J_aaldA (hX : Cx X cc nL own rm) (hd : decode cc pc = .ok (.aaload, 1)) (hka : kap a = 26) (hn : len a = n) {i : Int32} (hin : vp_in i n) {b : Nat} (hb : rho a i.toNatClampNeg = b) (kk : J X q (pc + 1) lv (.ref (ad b) :: st) (fl ad m)) : J X q pc lv (.int i :: .ref (ad a) :: st) (fl ad m) := by
  subst hb
  intro H ls locs hw hl hS
  have he := (wsO_fl (G := X.1) (m := m) (ad := ad) hka (by omega)).trans (by rw [ce_ref (t := 3) hka hn])
  have hlt : i.toNatClampNeg < n := Nat.not_le.mp fun z => hin (Or.inr z)
  exact W.aald (v := .ref (ad (rho a i.toNatClampNeg))) (ty := .array .int) hX.1 hX.2.1 (hw.1 a _ he) ((hX.2.2.2.2.2.1.2 6 (X.1.2.2.2.1 6, .array .int) rfl).1 n _) rfl (fun z => by cases z) (by show ¬ (i < 0 ∨ (arrV _ _ _).slots.size ≤ _); rw [arrV_size]; exact hin) (by show (arrV _ _ _).slots[_]? = _; rw [arrV_read _ _ hlt]; rfl) rfl rfl hd (kk H ls locs hw hl hS)
theorem J_iast (hX : Cx X cc nL own rm) (hd : decode cc pc = .ok (.iastore, 1)) (hka : kap a = 20) (hn : len a = n) {i x : Int32} (hin : vp_in i n) (kk : J X q (pc + 1) lv st (fl ad (wI m a i.toNatClampNeg x))) : J X q pc lv (.int x :: .int i :: .ref (ad a) :: st) (fl ad m) := by
  intro H ls locs hw hl hS
  refine va_iast hX.1 hX.2.1 hX.2.2.2.2.2.1 hw.1 hw.2 hS a 0 ((wsO_fl hka (by omega)).trans (by rw [ce_int hka hn])) rfl hin hd (fun H1 locs1 hP hD hS1 => ?_)
  have hset : (wsO X.1 (fl ad m)).set a (ad a, .inl (X.1.2.2.2.1 0, n, .inl (upd ((fl ad m).1.1 a) i.toNatClampNeg x))) = wsO X.1 (fl ad (wI m a i.toNatClampNeg x)) := by
    rw [← wsO_set (G := X.1) (w := fl ad m) (w' := fl ad (wI m a i.toNatClampNeg x)) (a := a) rfl (fun b hb => ce_wI hb), ce_int hka hn, fl_up, upI_a]
    rfl
  rw [hset] at hP hD
  exact kk H1 ls locs1 ⟨hP, hD⟩ hl hS1
theorem J_zast (hX : Cx X cc nL own rm) (hd : decode cc pc = .ok (.bastore, 1)) (hka : kap a = 21) (hn : len a = n) {i x : Int32} (hin : vp_in i n) (hx : bo x) (kk : J X q (pc + 1) lv st (fl ad (wI m a i.toNatClampNeg x))) : J X q pc lv (.int x :: .int i :: .ref (ad a) :: st) (fl ad m) := by
  intro H ls locs hw hl hS
  refine va_zast hX.1 hX.2.1 hX.2.2.2.2.2.1 hw.1 hw.2 hS a 1 ((wsO_fl hka (by omega)).trans (by rw [ce_boo hka hn])) rfl hin hd (fun H1 locs1 hP hD hS1 => ?_)
  have hset : (wsO X.1 (fl ad m)).set a (ad a, .inl (X.1.2.2.2.1 1, n, .inl (upd ((fl ad m).1.1 a) i.toNatClampNeg (vp_nar .boolean x)))) = wsO X.1 (fl ad (wI m a i.toNatClampNeg x)) := by
    rw [← wsO_set (G := X.1) (w := fl ad m) (w' := fl ad (wI m a i.toNatClampNeg x)) (a := a) rfl (fun b hb => ce_wI hb), ce_boo hka hn, fl_up, upI_a, show vp_nar .boolean x = x from bo_and hx]
    rfl
  rw [hset] at hP hD
  exact kk H1 ls locs1 ⟨hP, hD⟩ hl hS1
theorem J_last (hX : Cx X cc nL own rm) (hd : decode cc pc = .ok (.lastore, 1)) (hka : kap a = 22) (hn : len a = n) {i : Int32} {x : Int64} (hin : vp_in i n) (kk : J X q (pc + 1) lv st (fl ad (wL m a i.toNatClampNeg x))) : J X q pc lv (.long x :: .int i :: .ref (ad a) :: st) (fl ad m) := by
  intro H ls locs hw hl hS
  refine va_last hX.1 hX.2.1 hX.2.2.2.2.2.1 hw.1 hw.2 hS a 2 ((wsO_fl hka (by omega)).trans (by rw [ce_lon hka hn])) rfl hin hd (fun H1 locs1 hP hD hS1 => ?_)
  have hset : (wsO X.1 (fl ad m)).set a (ad a, .inl (X.1.2.2.2.1 2, n, .inr (.inl (vp_updL ((fl ad m).1.2 a) i.toNatClampNeg x)))) = wsO X.1 (fl ad (wL m a i.toNatClampNeg x)) := by
    rw [← wsO_set (G := X.1) (w := fl ad m) (w' := fl ad (wL m a i.toNatClampNeg x)) (a := a) rfl (fun b hb => ce_wL hb), ce_lon hka hn]
    show _ = (wsO X.1 (fl ad m)).set a (_, .inl (_, _, .inr (.inl (upL m.2 a i.toNatClampNeg x a))))
    rw [upL_a]
    rfl
  rw [hset] at hP hD
  exact kk H1 ls locs1 ⟨hP, hD⟩ hl hS1
theorem J_alen (hX : Cx X cc nL own rm) (hd : decode cc pc = .ok (.arraylength, 1)) {c : Nat} (hka : kap a = c) (hc : c = 20 ∨ c = 21 ∨ c = 22) (hn : len a = n) {v : Int32} (hv : Int32.ofNat n = v) (kk : J X q (pc + 1) lv (.int v :: st) (fl ad m)) : J X q pc lv (.ref (ad a) :: st) (fl ad m) := by
  intro H ls locs hw hl hS
  rcases hc with rfl | rfl | rfl
  · exact va_alen hX.1 hX.2.1 hX.2.2.2.2.2.1 hw.1 a 0 ((wsO_fl hka (by omega)).trans (by rw [ce_int hka hn])) rfl hv hd (kk H ls locs hw hl hS)
  · exact va_alen hX.1 hX.2.1 hX.2.2.2.2.2.1 hw.1 a 1 ((wsO_fl hka (by omega)).trans (by rw [ce_boo hka hn])) rfl hv hd (kk H ls locs hw hl hS)
  · exact va_alen hX.1 hX.2.1 hX.2.2.2.2.2.1 hw.1 a 2 ((wsO_fl hka (by omega)).trans (by rw [ce_lon hka hn])) rfl hv hd (kk H ls locs hw hl hS)
end JN
section JS
variable {X : XT} {q : Nat × Nat} {pc : Nat} {lv : List (Nat × Value)} {st : List Value} {w : Mf} {cc : ByteArray} {nL : Nat} {own : String} {rm : Room} {index k : Nat}
theorem J_gets (hX : Cx X cc nL own rm) (hd : decode cc pc = .ok (.getstatic index, 3)) (hk : k < 4) (hl0 : Cond.fieldLink own index (szC k).1 (szC k).2 "[I" ∈ lw_tbl) (kk : J X q (pc + 3) lv (.ref (X.1.2.2.2.2 k) :: st) w) : J X q pc lv st w := fun H ls locs hw hl hS =>
  va_gets hX.1 hX.2.1 (hX.2.2.2.2.2.2.1 k hk).1 hS hX.2.2.2.1 (lw_okts hX hl0 rfl) (fun x h => h) hd (kk H ls locs hw hl hS)
theorem J_getsN (hX : Cx X cc nL own rm) (hd : decode cc pc = .ok (.getstatic index, 3)) (hk : k < 4) {host : String} (hl0 : Cond.fieldLinkNest own index (szC k).1 (szC k).2 "[I" host ∈ lw_tbl) (kk : J X q (pc + 3) lv (.ref (X.1.2.2.2.2 k) :: st) w) : J X q pc lv st w := fun H ls locs hw hl hS =>
  va_getsN hX.1 hX.2.1 (hX.2.2.2.2.2.2.1 k hk).1 hS hX.2.2.2.1 (va_Nw.use rfl (hX.2.2.2.2.2.2.2.2.1.1 _ (List.mem_filter.mpr ⟨hl0, rfl⟩))) (fun x h => h) hd (kk H ls locs hw hl hS)
theorem J_sald (hX : Cx X cc nL own rm) (hd : decode cc pc = .ok (.iaload, 1)) (hk : k < 4) {i : Int32} (hin : vp_in i 4) (kk : J X q (pc + 1) lv (.int (szv k i.toNatClampNeg) :: st) w) : J X q pc lv (.int i :: .ref (X.1.2.2.2.2 k) :: st) w := fun H ls locs hw hl hS =>
  va_ti hX.1 hX.2.1 (hX.2.2.2.2.2.2.1 k hk).2 hS hin rfl hd (kk H ls locs hw hl hS)
end JS
end
section
def MIk (y : MethodName) (cy : ByteArray) (nLy : Nat) (ret : Option FieldType) (n : Nat) : Prop := Cond.code y cy nLy ret ∈ lw_tbl ∧ Cond.initialized y.cls ∈ lw_tbl ∧ (y.cls ≠ "java/lang/invoke/MethodHandle" ∧ y.cls ≠ "java/lang/invoke/VarHandle" ∧ (parseMethodDescriptor y.desc).map (fun d => d.parameters.length) = some n)
/-- an instance method: chosen by itself -/
def MVk (y : MethodName) (cy : ByteArray) (nLy : Nat) (ret : Option FieldType) (n ci : Nat) : Prop := MIk y cy nLy ret n ∧ Cond.instanceMethod y ∈ lw_tbl ∧ Cond.selects y.cls y y ∈ lw_tbl ∧ ∃ (T : u_T) (N : Nat), vwCl[ci]? = some (y.cls, T, N)
def MSk (y : MethodName) (cy : ByteArray) (nLy : Nat) (ret : Option FieldType) (n : Nat) : Prop := MIk y cy nLy ret n ∧ Cond.static y ∈ lw_tbl
/-- the callee's room in the caller's -/
def Rok (a b : Room) (nLy : Nat) : Prop := a.frames + 1 ≤ b.frames ∧ 8 + (nLy + 11) + a.locals ≤ b.locals
section JC
variable {X : XT} {q : Nat × Nat} {pc : Nat} {lv : List (Nat × Value)} {st st0 : List Value} {w : Mf} {cc : ByteArray} {nL : Nat} {own : String} {rm : Room} {K1 : Option Value → Mf → Prop}
theorem J_run {mc ms : Nat} {av : Array Value} (hr : ∀ (H : Heap) (ls : Array Slot) (locs : List Loc), wd X.1 w H → lv_has ls (xc X).maxLocals lv → va_S (gA X.1) (xs X).heap H locs → va_Run (xp X) X.1.1 (xe X) (xR X) (xs X) (xm X) (xa X) (xb X) (xh X) (xc X) H locs q.1 q.2 mc ms (F0 (xm X) pc ls st0) st (QcN X.1 K1 av) (gA X.1))
    (kk : ∀ (v : Option Value) (w2 : Mf), K1 v w2 → J X (q.1 + mc, q.2 + ms) (pc + 3) lv (v.toList ++ st) w2) : J X q pc lv st0 w := by
  intro H ls locs hw hl hS T hT Xs
  obtain ⟨v, st₀, t, T2, L, h0, X2, hL, e1, e2, ⟨⟨v2, w2, hv, hK, hw2⟩, hz, hk⟩, go⟩ := hr H ls locs hw hl hS T hT Xs
  cases hv
  rw [h0] at hz hk
  have hS2 : va_S (gA X.1) (xs X).heap T2.heap (locs ++ L) := by
    refine ⟨Nat.le_trans hS.1 (by rw [e1]; exact hz), fun z h1 h2 => ?_, fun z hzz => ?_⟩
    · rw [e1, hk z (Nat.lt_of_lt_of_le h1 hS.1) h2]
      exact hS.2.1 z h1 h2
    · rcases List.mem_append.mp hzz with h | h
      · exact hS.2.2 z h
      · exact hL z h
  obtain ⟨t2, a1, b1⟩ := kk v w2 hK T2.heap ls (locs ++ L) (by rw [e1]; exact hw2) hl hS2 T2 rfl X2
  exact ⟨t2, go t2 a1, b1⟩
theorem pcn_of {H : Heap} {locs : List Loc} {av : List Value} {nLx : Nat} (hX : Cx X cc nLx own rm) (hw : wd X.1 w H) (hS : va_S (gA X.1) (xs X).heap H locs) : ∀ U : State, U.heap = H → (xs X).WarmedH U.vm → PcN X.1 av w av.toArray U := by
  intro U hU hW
  obtain ⟨h1, h2, h3, h4, h5, h6, h7, h8, h9, h10⟩ := hX
  refine ⟨rfl, by rw [hU]; exact hw, va_K.moved hW.alike h6, ?_, ?_, TB.warm hW h9⟩
  · rw [hU]
    exact (SZ.moved hW.alike h7).kept hS.2.1
  · rw [hU]
    exact Nat.le_trans h8 hS.1
theorem cb_of (hX : Cx X cc nL own rm) {y : MethodName} {cy : ByteArray} {nLy n idx mc ms : Nat} {ret : Option FieldType} {rmy : Room} (hM : MIk y cy nLy ret n) (hl : Cond.methodLink own idx y ∈ lw_tbl) (hc : rmy.cells = mc) (hs : rmy.slots = ms) (hr : Rok rmy rm nLy) :
    CallB (xR X) (xs X) (xa X) own idx y cy nLy ret (Cond.code y cy nLy ret :: lw_ok) rmy mc ms n := by
  have hg : GoodIn lw_ok (Cond.code y cy nLy ret :: lw_ok) := by
    intro z hz
    rcases List.mem_cons.mp hz with rfl | hz
    · exact lw_good _ (lw_in hM.1 rfl)
    · exact lw_good z hz
  refine callB_of n hX.2.2.2.2.1 hg rfl hc hs (lw_okts hX hM.2.1 rfl) (lw_okts hX hl rfl) hM.2.2 ?_
  rw [hX.2.2.2.2.2.2.2.2.2]
  exact hr
theorem J_cV (hX : Cx X cc nL own rm) {a ci mc ms : Nat} {y : MethodName} {cy : ByteArray} {nLy n idx : Nat} {ret : Option FieldType} {rmy : Room} {As : List Value} (hC : Cn X.1 y cy nLy ret rmy (.ref (w.2.2.2 a) :: As) (mc, ms) w K1) (hM : MVk y cy nLy ret n ci) (hl : Cond.methodLink own idx y ∈ lw_tbl) (hd : decode cc pc = .ok (.invokevirtual idx, 3)) (hka : kap a = ci) (hci : ci < 20) (ha : a < w.2.2.1)
    (hc : rmy.cells = mc ∧ rmy.slots = ms) (hr : Rok rmy rm nLy) (hq : q.1 + mc ≤ rm.cells ∧ q.2 + ms ≤ rm.slots) (hn : As.length = n) (hst : st0 = As.reverse ++ .ref (w.2.2.2 a) :: st) (hW : (st.map fun v => v.category).sum ≤ 8)
    (kk : ∀ (v : Option Value) (w2 : Mf), K1 v w2 → J X (q.1 + mc, q.2 + ms) (pc + 3) lv (v.toList ++ st) w2) : J X q pc lv st0 w := by
  refine J_run (fun H ls locs hw hl2 hS => ?_) kk
  subst hst
  obtain ⟨hM1, hM2, hM3, T, N, hcl⟩ := hM
  exact va_runV (rest := st) ⟨hX.1, hX.2.1, rfl, hX.2.2.2.1, hX.2.2.2.2.1⟩ hC ⟨cb_of hX hM1 hl hc.1 hc.2 hr, lw_okts hX hM2 rfl, lw_okts hX hM3 rfl⟩
    ⟨PcN.blind, va_recv hX.2.2.2.2.2.1 hw.1 hcl ((wsO_at ha).trans (by rw [ce_obj hka hci])), pcn_of hX hw hS⟩ rfl hn hl2.1 rfl (lv_room hW) hd (by rw [hX.2.2.2.2.2.2.2.2.2]; exact hq)
theorem J_cS (hX : Cx X cc nL own rm) {mc ms : Nat} {y : MethodName} {cy : ByteArray} {nLy n idx : Nat} {ret : Option FieldType} {rmy : Room} {As : List Value} (hC : Cn X.1 y cy nLy ret rmy As (mc, ms) w K1) (hM : MSk y cy nLy ret n) (hl : Cond.methodLink own idx y ∈ lw_tbl) (hd : decode cc pc = .ok (.invokestatic idx, 3))
    (hc : rmy.cells = mc ∧ rmy.slots = ms) (hr : Rok rmy rm nLy) (hq : q.1 + mc ≤ rm.cells ∧ q.2 + ms ≤ rm.slots) (hn : As.length = n) (hst : st0 = As.reverse ++ st) (hW : (st.map fun v => v.category).sum ≤ 8)
    (kk : ∀ (v : Option Value) (w2 : Mf), K1 v w2 → J X (q.1 + mc, q.2 + ms) (pc + 3) lv (v.toList ++ st) w2) : J X q pc lv st0 w := by
  refine J_run (fun H ls locs hw hl2 hS => ?_) kk
  subst hst
  exact va_runS (rest := st) ⟨hX.1, hX.2.1, rfl, hX.2.2.2.1, hX.2.2.2.2.1⟩ hC ⟨cb_of hX hM.1 hl hc.1 hc.2 hr, lw_okts hX hM.2 rfl⟩
    ⟨PcN.blind, pcn_of hX hw hS⟩ rfl hn hl2.1 rfl (lv_room hW) hd (by rw [hX.2.2.2.2.2.2.2.2.2]; exact hq)
theorem J_cSN (hX : Cx X cc nL own rm) {mc ms : Nat} {y : MethodName} {cy : ByteArray} {nLy n idx : Nat} {ret : Option FieldType} {rmy : Room} {As : List Value} {host : String} (hC : Cn X.1 y cy nLy ret rmy As (mc, ms) w K1) (hM : MSk y cy nLy ret n) (hl : Cond.methodLinkNest own idx y host ∈ lw_tbl) (hd : decode cc pc = .ok (.invokestatic idx, 3))
    (hc : rmy.cells = mc ∧ rmy.slots = ms) (hr : Rok rmy rm nLy) (hq : q.1 + mc ≤ rm.cells ∧ q.2 + ms ≤ rm.slots) (hn : As.length = n) (hst : st0 = As.reverse ++ st) (hW : (st.map fun v => v.category).sum ≤ 8)
    (kk : ∀ (v : Option Value) (w2 : Mf), K1 v w2 → J X (q.1 + mc, q.2 + ms) (pc + 3) lv (v.toList ++ st) w2) : J X q pc lv st0 w := by
  refine J_run (fun H ls locs hw hl2 hS => ?_) kk
  subst hst
  have hg : GoodIn lw_ok (Cond.code y cy nLy ret :: lw_ok) := by
    intro z hz
    rcases List.mem_cons.mp hz with rfl | hz
    · exact lw_good _ (lw_in hM.1.1 rfl)
    · exact lw_good z hz
  exact va_runSN (rest := st) ⟨hX.1, hX.2.1, rfl, hX.2.2.2.1, hX.2.2.2.2.1⟩ hC ⟨va_cnB n hX.2.2.2.2.1 hg rfl hc.1 hc.2 (hX.2.2.2.2.2.2.2.2.1.1 _ (List.mem_filter.mpr ⟨hl, rfl⟩)) (lw_okts hX hM.1.2.1 rfl) hM.1.2.2 (by rw [hX.2.2.2.2.2.2.2.2.2]; exact hr), lw_okts hX hM.2 rfl, trivial⟩
    ⟨PcN.blind, pcn_of hX hw hS⟩ rfl hn hl2.1 rfl (lv_room hW) hd (by rw [hX.2.2.2.2.2.2.2.2.2]; exact hq)
end JC
section JD
variable {X : XT} {pc : Nat} {lv : List (Nat × Value)} {st st0 : List Value} {m : Mm} {ad : Nat → Nat} {cc : ByteArray} {nL : Nat} {own : String} {rm : Room} {K1 : Option Value → Mf → Prop}
/-- the room of a method that makes nothing -/
abbrev rmN (f n : Nat) : Room := { frames := f, cells := 0, slots := 0, locals := n }
theorem J_callV {f0 n0 f1 n1 : Nat} (hX : Cx X cc nL own (rmN f0 n0)) {a ci : Nat} {y : MethodName} {cy : ByteArray} {nLy n idx : Nat} {ret : Option FieldType} (hM : MVk y cy nLy ret n ci) (hl : Cond.methodLink own idx y ∈ lw_tbl) (hd : decode cc pc = .ok (.invokevirtual idx, 3)) (hka : kap a = ci) (hci : ci < 20) (As : List Value)
    (hr : Rok (rmN f1 n1) (rmN f0 n0) nLy) (hn : As.length = n) (hst : st0 = As.reverse ++ .ref (ad a) :: st) (hW : (st.map fun v => v.category).sum ≤ 8) (hC : Cn X.1 y cy nLy ret (rmN f1 n1) (.ref (ad a) :: As) (0, 0) (fl ad m) K1)
    (kk : ∀ (v : Option Value) (w2 : Mf), K1 v w2 → J X (0, 0) (pc + 3) lv (v.toList ++ st) w2) : J X (0, 0) pc lv st0 (fl ad m) :=
  J_cV hX hC hM hl hd hka hci (kap_lt hka (by omega)) ⟨rfl, rfl⟩ hr ⟨Nat.le_refl _, Nat.le_refl _⟩ hn hst hW kk
theorem J_callS {f0 n0 f1 n1 : Nat} (hX : Cx X cc nL own (rmN f0 n0)) {y : MethodName} {cy : ByteArray} {nLy n idx : Nat} {ret : Option FieldType} (hM : MSk y cy nLy ret n) (hl : Cond.methodLink own idx y ∈ lw_tbl) (hd : decode cc pc = .ok (.invokestatic idx, 3)) (As : List Value)
    (hr : Rok (rmN f1 n1) (rmN f0 n0) nLy) (hn : As.length = n) (hst : st0 = As.reverse ++ st) (hW : (st.map fun v => v.category).sum ≤ 8) (hC : Cn X.1 y cy nLy ret (rmN f1 n1) As (0, 0) (fl ad m) K1)
    (kk : ∀ (v : Option Value) (w2 : Mf), K1 v w2 → J X (0, 0) (pc + 3) lv (v.toList ++ st) w2) : J X (0, 0) pc lv st0 (fl ad m) :=
  J_cS hX hC hM hl hd ⟨rfl, rfl⟩ hr ⟨Nat.le_refl _, Nat.le_refl _⟩ hn hst hW kk
theorem J_callSN {f0 n0 f1 n1 : Nat} (hX : Cx X cc nL own (rmN f0 n0)) {y : MethodName} {cy : ByteArray} {nLy n idx : Nat} {ret : Option FieldType} {host : String} (hM : MSk y cy nLy ret n) (hl : Cond.methodLinkNest own idx y host ∈ lw_tbl) (hd : decode cc pc = .ok (.invokestatic idx, 3)) (As : List Value)
    (hr : Rok (rmN f1 n1) (rmN f0 n0) nLy) (hn : As.length = n) (hst : st0 = As.reverse ++ st) (hW : (st.map fun v => v.category).sum ≤ 8) (hC : Cn X.1 y cy nLy ret (rmN f1 n1) As (0, 0) (fl ad m) K1)
    (kk : ∀ (v : Option Value) (w2 : Mf), K1 v w2 → J X (0, 0) (pc + 3) lv (v.toList ++ st) w2) : J X (0, 0) pc lv st0 (fl ad m) :=
  J_cSN hX hC hM hl hd ⟨rfl, rfl⟩ hr ⟨Nat.le_refl _, Nat.le_refl _⟩ hn hst hW kk
end JD
end
