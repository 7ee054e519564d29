-- ===== PART A: goes FIRST, ahead of the names: the tables' words, and 'selects' of the private methods out of them =====
/-- a private method of a class that the tables say can be made, by its rows of tables_1 -/
def lw_okq (q : MethodName × Nat) : Prop := (q.1.cls ≠ "java/lang/invoke/MethodHandle" ∧ q.1.cls ≠ "java/lang/invoke/VarHandle") ∧ Cond.instantiable q.1.cls q.2 ∈ tables_1 ∧ Cond.privateMethod q.1 ∈ tables_1 ∧ Cond.instanceMethod q.1 ∈ tables_1
theorem lw_p0 : lw_okq (⟨"CellFinder$Line", "write", "(III)V"⟩, 3) := ⟨⟨by decide +kernel, by decide +kernel⟩, List.mem_of_getElem? (i := 37) (by decide +kernel), List.mem_of_getElem? (i := 329) (by decide +kernel), List.mem_of_getElem? (i := 330) (by decide +kernel)⟩
theorem lw_p1 : lw_okq (⟨"CellFinde\x72", "hasRoomForCells", "(I)Z"⟩, 12) := ⟨⟨by decide +kernel, by decide +kernel⟩, List.mem_of_getElem? (i := 20) (by decide +kernel), List.mem_of_getElem? (i := 345) (by decide +kernel), List.mem_of_getElem? (i := 346) (by decide +kernel)⟩
theorem lw_p2 : lw_okq (⟨"CellFinder$Sende\x72", "scrambled", "(I)I"⟩, 4) := ⟨⟨by decide +kernel, by decide +kernel⟩, List.mem_of_getElem? (i := 57) (by decide +kernel), List.mem_of_getElem? (i := 365) (by decide +kernel), List.mem_of_getElem? (i := 366) (by decide +kernel)⟩
theorem lw_p3 : lw_okq (⟨"CellFinde\x72", "isLoadHeld", "()Z"⟩, 12) := ⟨⟨by decide +kernel, by decide +kernel⟩, List.mem_of_getElem? (i := 20) (by decide +kernel), List.mem_of_getElem? (i := 455) (by decide +kernel), List.mem_of_getElem? (i := 456) (by decide +kernel)⟩
theorem lw_p4 : lw_okq (⟨"CellFinde\x72", "endOf", "(I)I"⟩, 12) := ⟨⟨by decide +kernel, by decide +kernel⟩, List.mem_of_getElem? (i := 20) (by decide +kernel), List.mem_of_getElem? (i := 463) (by decide +kernel), List.mem_of_getElem? (i := 464) (by decide +kernel)⟩
theorem lw_p5 : lw_okq (⟨"CellFinde\x72", "advance", "(LCellFinder$Receiver;II)V"⟩, 12) := ⟨⟨by decide +kernel, by decide +kernel⟩, List.mem_of_getElem? (i := 20) (by decide +kernel), List.mem_of_getElem? (i := 470) (by decide +kernel), List.mem_of_getElem? (i := 471) (by decide +kernel)⟩
theorem lw_p6 : lw_okq (⟨"CellFinder$Receive\x72", "hunt", "(I)V"⟩, 19) := ⟨⟨by decide +kernel, by decide +kernel⟩, List.mem_of_getElem? (i := 137) (by decide +kernel), List.mem_of_getElem? (i := 484) (by decide +kernel), List.mem_of_getElem? (i := 485) (by decide +kernel)⟩
theorem lw_p7 : lw_okq (⟨"CellFinder$Receive\x72", "become", "(II)V"⟩, 19) := ⟨⟨by decide +kernel, by decide +kernel⟩, List.mem_of_getElem? (i := 137) (by decide +kernel), List.mem_of_getElem? (i := 492) (by decide +kernel), List.mem_of_getElem? (i := 493) (by decide +kernel)⟩
theorem lw_p8 : lw_okq (⟨"CellFinder$Receive\x72", "loadBits", "()I"⟩, 19) := ⟨⟨by decide +kernel, by decide +kernel⟩, List.mem_of_getElem? (i := 137) (by decide +kernel), List.mem_of_getElem? (i := 500) (by decide +kernel), List.mem_of_getElem? (i := 501) (by decide +kernel)⟩
theorem lw_p9 : lw_okq (⟨"CellFinder$Receive\x72", "carry", "(I)V"⟩, 19) := ⟨⟨by decide +kernel, by decide +kernel⟩, List.mem_of_getElem? (i := 137) (by decide +kernel), List.mem_of_getElem? (i := 504) (by decide +kernel), List.mem_of_getElem? (i := 505) (by decide +kernel)⟩
theorem lw_p10 : lw_okq (⟨"CellFinder$Receive\x72", "endLoad", "()V"⟩, 19) := ⟨⟨by decide +kernel, by decide +kernel⟩, List.mem_of_getElem? (i := 137) (by decide +kernel), List.mem_of_getElem? (i := 510) (by decide +kernel), List.mem_of_getElem? (i := 511) (by decide +kernel)⟩
theorem lw_p11 : lw_okq (⟨"CellFinder$Sende\x72", "isLoadLike", "(I[BII)Z"⟩, 4) := ⟨⟨by decide +kernel, by decide +kernel⟩, List.mem_of_getElem? (i := 57) (by decide +kernel), List.mem_of_getElem? (i := 518) (by decide +kernel), List.mem_of_getElem? (i := 519) (by decide +kernel)⟩
theorem lw_p12 : lw_okq (⟨"CellFinder$Receive\x72", "judge", "(I)V"⟩, 19) := ⟨⟨by decide +kernel, by decide +kernel⟩, List.mem_of_getElem? (i := 137) (by decide +kernel), List.mem_of_getElem? (i := 528) (by decide +kernel), List.mem_of_getElem? (i := 529) (by decide +kernel)⟩
theorem lw_p13 : lw_okq (⟨"CellFinder$Receive\x72", "acceptRight", "(I)I"⟩, 19) := ⟨⟨by decide +kernel, by decide +kernel⟩, List.mem_of_getElem? (i := 137) (by decide +kernel), List.mem_of_getElem? (i := 540) (by decide +kernel), List.mem_of_getElem? (i := 541) (by decide +kernel)⟩
theorem lw_p14 : lw_okq (⟨"CellFinder$Receive\x72", "faceWrong", "(II)I"⟩, 19) := ⟨⟨by decide +kernel, by decide +kernel⟩, List.mem_of_getElem? (i := 137) (by decide +kernel), List.mem_of_getElem? (i := 544) (by decide +kernel), List.mem_of_getElem? (i := 545) (by decide +kernel)⟩
theorem lw_p15 : lw_okq (⟨"CellFinder$Receive\x72", "watch", "(Z)V"⟩, 19) := ⟨⟨by decide +kernel, by decide +kernel⟩, List.mem_of_getElem? (i := 137) (by decide +kernel), List.mem_of_getElem? (i := 554) (by decide +kernel), List.mem_of_getElem? (i := 555) (by decide +kernel)⟩
def lw_privs_1 : List (MethodName × Nat) := [(⟨"CellFinder$Line", "write", "(III)V"⟩, 3), (⟨"CellFinde\x72", "hasRoomForCells", "(I)Z"⟩, 12), (⟨"CellFinder$Sende\x72", "scrambled", "(I)I"⟩, 4), (⟨"CellFinde\x72", "isLoadHeld", "()Z"⟩, 12), (⟨"CellFinde\x72", "endOf", "(I)I"⟩, 12), (⟨"CellFinde\x72", "advance", "(LCellFinder$Receiver;II)V"⟩, 12), (⟨"CellFinder$Receive\x72", "hunt", "(I)V"⟩, 19), (⟨"CellFinder$Receive\x72", "become", "(II)V"⟩, 19), (⟨"CellFinder$Receive\x72", "loadBits", "()I"⟩, 19), (⟨"CellFinder$Receive\x72", "carry", "(I)V"⟩, 19), (⟨"CellFinder$Receive\x72", "endLoad", "()V"⟩, 19), (⟨"CellFinder$Sende\x72", "isLoadLike", "(I[BII)Z"⟩, 4), (⟨"CellFinder$Receive\x72", "judge", "(I)V"⟩, 19), (⟨"CellFinder$Receive\x72", "acceptRight", "(I)I"⟩, 19), (⟨"CellFinder$Receive\x72", "faceWrong", "(II)I"⟩, 19), (⟨"CellFinder$Receive\x72", "watch", "(Z)V"⟩, 19)]
theorem lw_r1 : ∀ q ∈ lw_privs_1, lw_okq q := List.forall_mem_cons.mpr ⟨lw_p0, List.forall_mem_cons.mpr ⟨lw_p1, List.forall_mem_cons.mpr ⟨lw_p2, List.forall_mem_cons.mpr ⟨lw_p3, List.forall_mem_cons.mpr ⟨lw_p4, List.forall_mem_cons.mpr ⟨lw_p5, List.forall_mem_cons.mpr ⟨lw_p6, List.forall_mem_cons.mpr ⟨lw_p7, List.forall_mem_cons.mpr ⟨lw_p8, List.forall_mem_cons.mpr ⟨lw_p9, List.forall_mem_cons.mpr ⟨lw_p10, List.forall_mem_cons.mpr ⟨lw_p11, List.forall_mem_cons.mpr ⟨lw_p12, List.forall_mem_cons.mpr ⟨lw_p13, List.forall_mem_cons.mpr ⟨lw_p14, List.forall_mem_cons.mpr ⟨lw_p15, fun _ h => absurd h List.not_mem_nil⟩⟩⟩⟩⟩⟩⟩⟩⟩⟩⟩⟩⟩⟩⟩⟩
theorem lw_p16 : lw_okq (⟨"CellFinde\x72", "foundOf", "(I)I"⟩, 12) := ⟨⟨by decide +kernel, by decide +kernel⟩, List.mem_of_getElem? (i := 20) (by decide +kernel), List.mem_of_getElem? (i := 642) (by decide +kernel), List.mem_of_getElem? (i := 643) (by decide +kernel)⟩
theorem lw_p17 : lw_okq (⟨"CellFinde\x72", "bitsTillSure", "(I)I"⟩, 12) := ⟨⟨by decide +kernel, by decide +kernel⟩, List.mem_of_getElem? (i := 20) (by decide +kernel), List.mem_of_getElem? (i := 725) (by decide +kernel), List.mem_of_getElem? (i := 726) (by decide +kernel)⟩
theorem lw_p18 : lw_okq (⟨"CellFinde\x72", "tallyPhases", "(I)V"⟩, 12) := ⟨⟨by decide +kernel, by decide +kernel⟩, List.mem_of_getElem? (i := 20) (by decide +kernel), List.mem_of_getElem? (i := 748) (by decide +kernel), List.mem_of_getElem? (i := 749) (by decide +kernel)⟩
theorem lw_p19 : lw_okq (⟨"CellFinder$Weights", "countWords", "()V"⟩, 4) := ⟨⟨by decide +kernel, by decide +kernel⟩, List.mem_of_getElem? (i := 249) (by decide +kernel), List.mem_of_getElem? (i := 827) (by decide +kernel), List.mem_of_getElem? (i := 828) (by decide +kernel)⟩
theorem lw_p20 : lw_okq (⟨"CellFinder$Weights", "countMasks", "()V"⟩, 4) := ⟨⟨by decide +kernel, by decide +kernel⟩, List.mem_of_getElem? (i := 249) (by decide +kernel), List.mem_of_getElem? (i := 831) (by decide +kernel), List.mem_of_getElem? (i := 832) (by decide +kernel)⟩
theorem lw_p21 : lw_okq (⟨"CellFinder$Weights", "addUpSigns", "(I)V"⟩, 4) := ⟨⟨by decide +kernel, by decide +kernel⟩, List.mem_of_getElem? (i := 249) (by decide +kernel), List.mem_of_getElem? (i := 842) (by decide +kernel), List.mem_of_getElem? (i := 843) (by decide +kernel)⟩
theorem lw_p22 : lw_okq (⟨"CellFinde\x72", "oddsOf", "(III)J"⟩, 12) := ⟨⟨by decide +kernel, by decide +kernel⟩, List.mem_of_getElem? (i := 20) (by decide +kernel), List.mem_of_getElem? (i := 891) (by decide +kernel), List.mem_of_getElem? (i := 892) (by decide +kernel)⟩
theorem lw_p23 : lw_okq (⟨"CellFinde\x72", "rungsOf", "(I)I"⟩, 12) := ⟨⟨by decide +kernel, by decide +kernel⟩, List.mem_of_getElem? (i := 20) (by decide +kernel), List.mem_of_getElem? (i := 895) (by decide +kernel), List.mem_of_getElem? (i := 896) (by decide +kernel)⟩
theorem lw_p24 : lw_okq (⟨"CellFinderModel", "laysBits", "(II)V"⟩, 22) := ⟨⟨by decide +kernel, by decide +kernel⟩, List.mem_of_getElem? (i := 929) (by decide +kernel), List.mem_of_getElem? (i := 1007) (by decide +kernel), List.mem_of_getElem? (i := 1008) (by decide +kernel)⟩
theorem lw_p25 : lw_okq (⟨"CellFinderModel", "lays", "(I)V"⟩, 22) := ⟨⟨by decide +kernel, by decide +kernel⟩, List.mem_of_getElem? (i := 929) (by decide +kernel), List.mem_of_getElem? (i := 1011) (by decide +kernel), List.mem_of_getElem? (i := 1012) (by decide +kernel)⟩
theorem lw_p26 : lw_okq (⟨"CellFinderModel", "laysFewest", "()V"⟩, 22) := ⟨⟨by decide +kernel, by decide +kernel⟩, List.mem_of_getElem? (i := 929) (by decide +kernel), List.mem_of_getElem? (i := 1056) (by decide +kernel), List.mem_of_getElem? (i := 1057) (by decide +kernel)⟩
theorem lw_p27 : lw_okq (⟨"CellFinderModel", "hasRoom", "(I)Z"⟩, 22) := ⟨⟨by decide +kernel, by decide +kernel⟩, List.mem_of_getElem? (i := 929) (by decide +kernel), List.mem_of_getElem? (i := 1071) (by decide +kernel), List.mem_of_getElem? (i := 1072) (by decide +kernel)⟩
theorem lw_p28 : lw_okq (⟨"CellFinderModel", "cellLong", "()I"⟩, 22) := ⟨⟨by decide +kernel, by decide +kernel⟩, List.mem_of_getElem? (i := 929) (by decide +kernel), List.mem_of_getElem? (i := 1075) (by decide +kernel), List.mem_of_getElem? (i := 1076) (by decide +kernel)⟩
theorem lw_p29 : lw_okq (⟨"CellFinderModel", "sends", "(I)V"⟩, 22) := ⟨⟨by decide +kernel, by decide +kernel⟩, List.mem_of_getElem? (i := 929) (by decide +kernel), List.mem_of_getElem? (i := 1080) (by decide +kernel), List.mem_of_getElem? (i := 1081) (by decide +kernel)⟩
theorem lw_p30 : lw_okq (⟨"CellFinderModel", "scrambles", "(I)V"⟩, 22) := ⟨⟨by decide +kernel, by decide +kernel⟩, List.mem_of_getElem? (i := 929) (by decide +kernel), List.mem_of_getElem? (i := 1084) (by decide +kernel), List.mem_of_getElem? (i := 1085) (by decide +kernel)⟩
theorem lw_p31 : lw_okq (⟨"CellFinderModel", "isBit", "(I)Z"⟩, 22) := ⟨⟨by decide +kernel, by decide +kernel⟩, List.mem_of_getElem? (i := 929) (by decide +kernel), List.mem_of_getElem? (i := 1097) (by decide +kernel), List.mem_of_getElem? (i := 1098) (by decide +kernel)⟩
def lw_privs_2 : List (MethodName × Nat) := [(⟨"CellFinde\x72", "foundOf", "(I)I"⟩, 12), (⟨"CellFinde\x72", "bitsTillSure", "(I)I"⟩, 12), (⟨"CellFinde\x72", "tallyPhases", "(I)V"⟩, 12), (⟨"CellFinder$Weights", "countWords", "()V"⟩, 4), (⟨"CellFinder$Weights", "countMasks", "()V"⟩, 4), (⟨"CellFinder$Weights", "addUpSigns", "(I)V"⟩, 4), (⟨"CellFinde\x72", "oddsOf", "(III)J"⟩, 12), (⟨"CellFinde\x72", "rungsOf", "(I)I"⟩, 12), (⟨"CellFinderModel", "laysBits", "(II)V"⟩, 22), (⟨"CellFinderModel", "lays", "(I)V"⟩, 22), (⟨"CellFinderModel", "laysFewest", "()V"⟩, 22), (⟨"CellFinderModel", "hasRoom", "(I)Z"⟩, 22), (⟨"CellFinderModel", "cellLong", "()I"⟩, 22), (⟨"CellFinderModel", "sends", "(I)V"⟩, 22), (⟨"CellFinderModel", "scrambles", "(I)V"⟩, 22), (⟨"CellFinderModel", "isBit", "(I)Z"⟩, 22)]
theorem lw_r2 : ∀ q ∈ lw_privs_2, lw_okq q := List.forall_mem_cons.mpr ⟨lw_p16, List.forall_mem_cons.mpr ⟨lw_p17, List.forall_mem_cons.mpr ⟨lw_p18, List.forall_mem_cons.mpr ⟨lw_p19, List.forall_mem_cons.mpr ⟨lw_p20, List.forall_mem_cons.mpr ⟨lw_p21, List.forall_mem_cons.mpr ⟨lw_p22, List.forall_mem_cons.mpr ⟨lw_p23, List.forall_mem_cons.mpr ⟨lw_p24, List.forall_mem_cons.mpr ⟨lw_p25, List.forall_mem_cons.mpr ⟨lw_p26, List.forall_mem_cons.mpr ⟨lw_p27, List.forall_mem_cons.mpr ⟨lw_p28, List.forall_mem_cons.mpr ⟨lw_p29, List.forall_mem_cons.mpr ⟨lw_p30, List.forall_mem_cons.mpr ⟨lw_p31, fun _ h => absurd h List.not_mem_nil⟩⟩⟩⟩⟩⟩⟩⟩⟩⟩⟩⟩⟩⟩⟩⟩
theorem lw_p32 : lw_okq (⟨"CellFinderModel", "takes", "(I)V"⟩, 22) := ⟨⟨by decide +kernel, by decide +kernel⟩, List.mem_of_getElem? (i := 929) (by decide +kernel), List.mem_of_getElem? (i := 1144) (by decide +kernel), List.mem_of_getElem? (i := 1145) (by decide +kernel)⟩
theorem lw_p33 : lw_okq (⟨"CellFinderModel", "takesOne", "()V"⟩, 22) := ⟨⟨by decide +kernel, by decide +kernel⟩, List.mem_of_getElem? (i := 929) (by decide +kernel), List.mem_of_getElem? (i := 1148) (by decide +kernel), List.mem_of_getElem? (i := 1149) (by decide +kernel)⟩
theorem lw_p34 : lw_okq (⟨"CellFinderModel", "counts", "(I)V"⟩, 22) := ⟨⟨by decide +kernel, by decide +kernel⟩, List.mem_of_getElem? (i := 929) (by decide +kernel), List.mem_of_getElem? (i := 1152) (by decide +kernel), List.mem_of_getElem? (i := 1153) (by decide +kernel)⟩
theorem lw_p35 : lw_okq (⟨"CellFinderModel", "hunts", "()V"⟩, 22) := ⟨⟨by decide +kernel, by decide +kernel⟩, List.mem_of_getElem? (i := 929) (by decide +kernel), List.mem_of_getElem? (i := 1156) (by decide +kernel), List.mem_of_getElem? (i := 1157) (by decide +kernel)⟩
theorem lw_p36 : lw_okq (⟨"CellFinderModel", "syndromeNow", "()I"⟩, 22) := ⟨⟨by decide +kernel, by decide +kernel⟩, List.mem_of_getElem? (i := 929) (by decide +kernel), List.mem_of_getElem? (i := 1160) (by decide +kernel), List.mem_of_getElem? (i := 1161) (by decide +kernel)⟩
theorem lw_p37 : lw_okq (⟨"CellFinderModel", "turns", "(I)V"⟩, 22) := ⟨⟨by decide +kernel, by decide +kernel⟩, List.mem_of_getElem? (i := 929) (by decide +kernel), List.mem_of_getElem? (i := 1164) (by decide +kernel), List.mem_of_getElem? (i := 1165) (by decide +kernel)⟩
theorem lw_p38 : lw_okq (⟨"CellFinderModel", "takesHead", "()V"⟩, 22) := ⟨⟨by decide +kernel, by decide +kernel⟩, List.mem_of_getElem? (i := 929) (by decide +kernel), List.mem_of_getElem? (i := 1168) (by decide +kernel), List.mem_of_getElem? (i := 1169) (by decide +kernel)⟩
theorem lw_p39 : lw_okq (⟨"CellFinderModel", "checksNea\x72", "(I)V"⟩, 22) := ⟨⟨by decide +kernel, by decide +kernel⟩, List.mem_of_getElem? (i := 929) (by decide +kernel), List.mem_of_getElem? (i := 1172) (by decide +kernel), List.mem_of_getElem? (i := 1173) (by decide +kernel)⟩
theorem lw_p40 : lw_okq (⟨"CellFinderModel", "checksSure", "(I)V"⟩, 22) := ⟨⟨by decide +kernel, by decide +kernel⟩, List.mem_of_getElem? (i := 929) (by decide +kernel), List.mem_of_getElem? (i := 1176) (by decide +kernel), List.mem_of_getElem? (i := 1177) (by decide +kernel)⟩
theorem lw_p41 : lw_okq (⟨"CellFinderModel", "takesLoad", "(I)V"⟩, 22) := ⟨⟨by decide +kernel, by decide +kernel⟩, List.mem_of_getElem? (i := 929) (by decide +kernel), List.mem_of_getElem? (i := 1180) (by decide +kernel), List.mem_of_getElem? (i := 1181) (by decide +kernel)⟩
theorem lw_p42 : lw_okq (⟨"CellFinderModel", "delivers", "()V"⟩, 22) := ⟨⟨by decide +kernel, by decide +kernel⟩, List.mem_of_getElem? (i := 929) (by decide +kernel), List.mem_of_getElem? (i := 1184) (by decide +kernel), List.mem_of_getElem? (i := 1185) (by decide +kernel)⟩
theorem lw_p43 : lw_okq (⟨"CellFinderModel", "foundOf", "(I)I"⟩, 22) := ⟨⟨by decide +kernel, by decide +kernel⟩, List.mem_of_getElem? (i := 929) (by decide +kernel), List.mem_of_getElem? (i := 1191) (by decide +kernel), List.mem_of_getElem? (i := 1192) (by decide +kernel)⟩
theorem lw_p44 : lw_okq (⟨"CellFinderModel", "isLike", "(II)Z"⟩, 22) := ⟨⟨by decide +kernel, by decide +kernel⟩, List.mem_of_getElem? (i := 929) (by decide +kernel), List.mem_of_getElem? (i := 1195) (by decide +kernel), List.mem_of_getElem? (i := 1196) (by decide +kernel)⟩
theorem lw_p45 : lw_okq (⟨"CellFinderModel", "freshens", "()V"⟩, 22) := ⟨⟨by decide +kernel, by decide +kernel⟩, List.mem_of_getElem? (i := 929) (by decide +kernel), List.mem_of_getElem? (i := 1203) (by decide +kernel), List.mem_of_getElem? (i := 1204) (by decide +kernel)⟩
theorem lw_p46 : lw_okq (⟨"CellFinderModel", "cellAt", "(I)I"⟩, 22) := ⟨⟨by decide +kernel, by decide +kernel⟩, List.mem_of_getElem? (i := 929) (by decide +kernel), List.mem_of_getElem? (i := 1220) (by decide +kernel), List.mem_of_getElem? (i := 1221) (by decide +kernel)⟩
theorem lw_p47 : lw_okq (⟨"CellFinderModel", "opens", "()V"⟩, 22) := ⟨⟨by decide +kernel, by decide +kernel⟩, List.mem_of_getElem? (i := 929) (by decide +kernel), List.mem_of_getElem? (i := 1253) (by decide +kernel), List.mem_of_getElem? (i := 1254) (by decide +kernel)⟩
def lw_privs_3 : List (MethodName × Nat) := [(⟨"CellFinderModel", "takes", "(I)V"⟩, 22), (⟨"CellFinderModel", "takesOne", "()V"⟩, 22), (⟨"CellFinderModel", "counts", "(I)V"⟩, 22), (⟨"CellFinderModel", "hunts", "()V"⟩, 22), (⟨"CellFinderModel", "syndromeNow", "()I"⟩, 22), (⟨"CellFinderModel", "turns", "(I)V"⟩, 22), (⟨"CellFinderModel", "takesHead", "()V"⟩, 22), (⟨"CellFinderModel", "checksNea\x72", "(I)V"⟩, 22), (⟨"CellFinderModel", "checksSure", "(I)V"⟩, 22), (⟨"CellFinderModel", "takesLoad", "(I)V"⟩, 22), (⟨"CellFinderModel", "delivers", "()V"⟩, 22), (⟨"CellFinderModel", "foundOf", "(I)I"⟩, 22), (⟨"CellFinderModel", "isLike", "(II)Z"⟩, 22), (⟨"CellFinderModel", "freshens", "()V"⟩, 22), (⟨"CellFinderModel", "cellAt", "(I)I"⟩, 22), (⟨"CellFinderModel", "opens", "()V"⟩, 22)]
theorem lw_r3 : ∀ q ∈ lw_privs_3, lw_okq q := List.forall_mem_cons.mpr ⟨lw_p32, List.forall_mem_cons.mpr ⟨lw_p33, List.forall_mem_cons.mpr ⟨lw_p34, List.forall_mem_cons.mpr ⟨lw_p35, List.forall_mem_cons.mpr ⟨lw_p36, List.forall_mem_cons.mpr ⟨lw_p37, List.forall_mem_cons.mpr ⟨lw_p38, List.forall_mem_cons.mpr ⟨lw_p39, List.forall_mem_cons.mpr ⟨lw_p40, List.forall_mem_cons.mpr ⟨lw_p41, List.forall_mem_cons.mpr ⟨lw_p42, List.forall_mem_cons.mpr ⟨lw_p43, List.forall_mem_cons.mpr ⟨lw_p44, List.forall_mem_cons.mpr ⟨lw_p45, List.forall_mem_cons.mpr ⟨lw_p46, List.forall_mem_cons.mpr ⟨lw_p47, fun _ h => absurd h List.not_mem_nil⟩⟩⟩⟩⟩⟩⟩⟩⟩⟩⟩⟩⟩⟩⟩⟩
theorem lw_p48 : lw_okq (⟨"CellFinderModel", "closes", "()V"⟩, 22) := ⟨⟨by decide +kernel, by decide +kernel⟩, List.mem_of_getElem? (i := 929) (by decide +kernel), List.mem_of_getElem? (i := 1257) (by decide +kernel), List.mem_of_getElem? (i := 1258) (by decide +kernel)⟩
theorem lw_p49 : lw_okq (⟨"CellFinderModel", "regainedBy", "(I)I"⟩, 22) := ⟨⟨by decide +kernel, by decide +kernel⟩, List.mem_of_getElem? (i := 929) (by decide +kernel), List.mem_of_getElem? (i := 1278) (by decide +kernel), List.mem_of_getElem? (i := 1279) (by decide +kernel)⟩
theorem lw_p50 : lw_okq (⟨"CellFinderModel", "looksRight", "(I)Z"⟩, 22) := ⟨⟨by decide +kernel, by decide +kernel⟩, List.mem_of_getElem? (i := 929) (by decide +kernel), List.mem_of_getElem? (i := 1294) (by decide +kernel), List.mem_of_getElem? (i := 1295) (by decide +kernel)⟩
theorem lw_p51 : lw_okq (⟨"CellFinderModel", "laysWays", "()V"⟩, 22) := ⟨⟨by decide +kernel, by decide +kernel⟩, List.mem_of_getElem? (i := 929) (by decide +kernel), List.mem_of_getElem? (i := 1316) (by decide +kernel), List.mem_of_getElem? (i := 1317) (by decide +kernel)⟩
theorem lw_p52 : lw_okq (⟨"CellFinderModel", "oddsOf", "(III)J"⟩, 22) := ⟨⟨by decide +kernel, by decide +kernel⟩, List.mem_of_getElem? (i := 929) (by decide +kernel), List.mem_of_getElem? (i := 1346) (by decide +kernel), List.mem_of_getElem? (i := 1347) (by decide +kernel)⟩
theorem lw_p53 : lw_okq (⟨"CellFinderModel", "lostOf", "(II)J"⟩, 22) := ⟨⟨by decide +kernel, by decide +kernel⟩, List.mem_of_getElem? (i := 929) (by decide +kernel), List.mem_of_getElem? (i := 1350) (by decide +kernel), List.mem_of_getElem? (i := 1351) (by decide +kernel)⟩
theorem lw_p54 : lw_okq (⟨"CellFinderModel", "gainedOf", "(II)J"⟩, 22) := ⟨⟨by decide +kernel, by decide +kernel⟩, List.mem_of_getElem? (i := 929) (by decide +kernel), List.mem_of_getElem? (i := 1354) (by decide +kernel), List.mem_of_getElem? (i := 1355) (by decide +kernel)⟩
def lw_privs_4 : List (MethodName × Nat) := [(⟨"CellFinderModel", "closes", "()V"⟩, 22), (⟨"CellFinderModel", "regainedBy", "(I)I"⟩, 22), (⟨"CellFinderModel", "looksRight", "(I)Z"⟩, 22), (⟨"CellFinderModel", "laysWays", "()V"⟩, 22), (⟨"CellFinderModel", "oddsOf", "(III)J"⟩, 22), (⟨"CellFinderModel", "lostOf", "(II)J"⟩, 22), (⟨"CellFinderModel", "gainedOf", "(II)J"⟩, 22)]
theorem lw_r4 : ∀ q ∈ lw_privs_4, lw_okq q := List.forall_mem_cons.mpr ⟨lw_p48, List.forall_mem_cons.mpr ⟨lw_p49, List.forall_mem_cons.mpr ⟨lw_p50, List.forall_mem_cons.mpr ⟨lw_p51, List.forall_mem_cons.mpr ⟨lw_p52, List.forall_mem_cons.mpr ⟨lw_p53, List.forall_mem_cons.mpr ⟨lw_p54, fun _ h => absurd h List.not_mem_nil⟩⟩⟩⟩⟩⟩⟩
def lw_privs : List (MethodName × Nat) := lw_privs_1 ++ (lw_privs_2 ++ (lw_privs_3 ++ (lw_privs_4)))
def lw_tbl : List Cond := k2_sels lw_privs ++ tables_1
theorem lw_privs_ok : ∀ q ∈ lw_privs, lw_okq q := by
  show ∀ q ∈ lw_privs_1 ++ (lw_privs_2 ++ (lw_privs_3 ++ (lw_privs_4))), lw_okq q
  exact List.forall_mem_append.mpr ⟨lw_r1, List.forall_mem_append.mpr ⟨lw_r2, List.forall_mem_append.mpr ⟨lw_r3, lw_r4⟩⟩⟩
/-- the streams that the claim lets the run draw from -/
abbrev lw_cs : List Choice := [Jvm.Choice.named "NaN.bits"]
theorem lw_bits : nanBits ∈ lw_cs := by first | decide | exact List.mem_cons_self | simp [lw_cs, nanBits]
def RX0 : String := "CellFinder$Bits"
def TX0 : u_T := fun k => match k with
  | _ => ("", "", "", false)
def tyX0 : Nat → FieldType := fun k => match k with
  | _ => .int
theorem nmX0 : ∀ a, a < 0 → ∀ b, b < 0 → a ≠ b → (TX0 a).2.1 ≠ (TX0 b).2.1 := by decide +kernel
theorem tyX0_ok : ∀ k, k < 0 → parseFieldDescriptor (TX0 k).2.2.1 = some (tyX0 k) := by decide +kernel
abbrev cX0_ofRatio : ByteArray := prog_2_method_2_code
def yX0_ofRatio : MethodName := ⟨RX0, "ofRatio", "(JJI)J"⟩
abbrev cX0_upper : ByteArray := prog_2_method_3_code
def yX0_upper : MethodName := ⟨RX0, "uppe\x72", "(J)I"⟩
abbrev cX0_lower : ByteArray := prog_2_method_4_code
def yX0_lower : MethodName := ⟨RX0, "lowe\x72", "(J)I"⟩
abbrev cX0_ofDouble : ByteArray := prog_2_method_5_code
def yX0_ofDouble : MethodName := ⟨RX0, "ofDouble", "(D)J"⟩
abbrev cX0_ofFloat : ByteArray := prog_2_method_6_code
def yX0_ofFloat : MethodName := ⟨RX0, "ofFloat", "(F)I"⟩
def RX1 : String := "CellFinder$Checks"
def TX1 : u_T := fun k => match k with
  | 0 => ("CellFinder$Checks", "shares", "[I", true)
  | _ => ("CellFinder$Checks", "row", "[I", true)
def tyX1 : Nat → FieldType := fun k => match k with
  | 0 => .array .int
  | _ => .array .int
theorem nmX1 : ∀ a, a < 2 → ∀ b, b < 2 → a ≠ b → (TX1 a).2.1 ≠ (TX1 b).2.1 := by decide +kernel
theorem tyX1_ok : ∀ k, k < 2 → parseFieldDescriptor (TX1 k).2.2.1 = some (tyX1 k) := by decide +kernel
abbrev cX1_init : ByteArray := prog_3_method_1_code
def yX1_init : MethodName := ⟨RX1, "<init>", "()V"⟩
abbrev cX1_timesX : ByteArray := prog_3_method_2_code
def yX1_timesX : MethodName := ⟨RX1, "timesX", "(I)I"⟩
abbrev cX1_ofHeader : ByteArray := prog_3_method_3_code
def yX1_ofHeader : MethodName := ⟨RX1, "ofHeade\x72", "(I)I"⟩
abbrev cX1_bitOf : ByteArray := prog_3_method_4_code
def yX1_bitOf : MethodName := ⟨RX1, "bitOf", "(I)I"⟩
abbrev cX1_mendedHeader : ByteArray := prog_3_method_5_code
def yX1_mendedHeader : MethodName := ⟨RX1, "mendedHeade\x72", "(II)I"⟩
abbrev cX1_mendedCheck : ByteArray := prog_3_method_6_code
def yX1_mendedCheck : MethodName := ⟨RX1, "mendedCheck", "(II)I"⟩
abbrev cX1_shareOf : ByteArray := prog_3_method_7_code
def yX1_shareOf : MethodName := ⟨RX1, "shareOf", "(I)I"⟩
abbrev cX1_pairOf : ByteArray := prog_3_method_8_code
def yX1_pairOf : MethodName := ⟨RX1, "pairOf", "(II)I"⟩
abbrev cX1_fewestFor : ByteArray := prog_3_method_9_code
def yX1_fewestFor : MethodName := ⟨RX1, "fewestFo\x72", "(I)I"⟩
abbrev cX1_chosen : ByteArray := prog_3_method_10_code
def yX1_chosen : MethodName := ⟨RX1, "chosen", "(I)I"⟩
abbrev cX1_canChoose : ByteArray := prog_3_method_11_code
def yX1_canChoose : MethodName := ⟨RX1, "canChoose", "([I[IIIII)Z"⟩
def RX2 : String := "CellFinder$History"
def TX2 : u_T := fun k => match k with
  | _ => ("CellFinder$History", "past", "J", false)
def tyX2 : Nat → FieldType := fun k => match k with
  | _ => .long
theorem nmX2 : ∀ a, a < 1 → ∀ b, b < 1 → a ≠ b → (TX2 a).2.1 ≠ (TX2 b).2.1 := by decide +kernel
theorem tyX2_ok : ∀ k, k < 1 → parseFieldDescriptor (TX2 k).2.2.1 = some (tyX2 k) := by decide +kernel
abbrev cX2_init : ByteArray := prog_4_method_1_code
def yX2_init : MethodName := ⟨RX2, "<init>", "()V"⟩
abbrev cX2_clear : ByteArray := prog_4_method_2_code
def yX2_clear : MethodName := ⟨RX2, "clea\x72", "()V"⟩
abbrev cX2_mirror : ByteArray := prog_4_method_3_code
def yX2_mirror : MethodName := ⟨RX2, "mirro\x72", "(LCellFinder$History;)V"⟩
abbrev cX2_set : ByteArray := prog_4_method_4_code
def yX2_set : MethodName := ⟨RX2, "set", "(II)V"⟩
abbrev cX2_oldest : ByteArray := prog_4_method_5_code
def yX2_oldest : MethodName := ⟨RX2, "oldest", "()I"⟩
abbrev cX2_bitAgo : ByteArray := prog_4_method_6_code
def yX2_bitAgo : MethodName := ⟨RX2, "bitAgo", "(I)I"⟩
abbrev cX2_push : ByteArray := prog_4_method_7_code
def yX2_push : MethodName := ⟨RX2, "push", "(I)V"⟩
abbrev cX2_ones : ByteArray := prog_4_method_8_code
def yX2_ones : MethodName := ⟨RX2, "ones", "()I"⟩
def RX3 : String := "CellFinder$Ladde\x72"
def TX3 : u_T := fun k => match k with
  | _ => ("CellFinder$Ladde\x72", "ways", "[J", true)
def tyX3 : Nat → FieldType := fun k => match k with
  | _ => .array .long
theorem nmX3 : ∀ a, a < 1 → ∀ b, b < 1 → a ≠ b → (TX3 a).2.1 ≠ (TX3 b).2.1 := by decide +kernel
theorem tyX3_ok : ∀ k, k < 1 → parseFieldDescriptor (TX3 k).2.2.1 = some (tyX3 k) := by decide +kernel
abbrev cX3_init : ByteArray := prog_5_method_1_code
def yX3_init : MethodName := ⟨RX3, "<init>", "()V"⟩
abbrev cX3_waysUp : ByteArray := prog_5_method_2_code
def yX3_waysUp : MethodName := ⟨RX3, "waysUp", "(IIII)J"⟩
abbrev cX3_meanClimb : ByteArray := prog_5_method_3_code
def yX3_meanClimb : MethodName := ⟨RX3, "meanClimb", "(II)D"⟩
def RX4 : String := "CellFinder$Line"
def TX4 : u_T := fun k => match k with
  | 0 => ("CellFinder$Line", "bits", "[B", true)
  | 1 => ("CellFinder$Line", "size", "I", false)
  | _ => ("CellFinder$Line", "at", "I", false)
def tyX4 : Nat → FieldType := fun k => match k with
  | 0 => .array .byte
  | 1 => .int
  | _ => .int
theorem nmX4 : ∀ a, a < 3 → ∀ b, b < 3 → a ≠ b → (TX4 a).2.1 ≠ (TX4 b).2.1 := by decide +kernel
theorem tyX4_ok : ∀ k, k < 3 → parseFieldDescriptor (TX4 k).2.2.1 = some (tyX4 k) := by decide +kernel
abbrev cX4_init : ByteArray := prog_6_method_1_code
def yX4_init : MethodName := ⟨RX4, "<init>", "()V"⟩
abbrev cX4_has : ByteArray := prog_6_method_2_code
def yX4_has : MethodName := ⟨RX4, "has", "(I)Z"⟩
abbrev cX4_left : ByteArray := prog_6_method_3_code
def yX4_left : MethodName := ⟨RX4, "left", "()I"⟩
abbrev cX4_hasRoomFor : ByteArray := prog_6_method_4_code
def yX4_hasRoomFor : MethodName := ⟨RX4, "hasRoomFo\x72", "(I)Z"⟩
abbrev cX4_bitAt : ByteArray := prog_6_method_5_code
def yX4_bitAt : MethodName := ⟨RX4, "bitAt", "(I)I"⟩
abbrev cX4_toggle : ByteArray := prog_6_method_6_code
def yX4_toggle : MethodName := ⟨RX4, "toggle", "(I)V"⟩
abbrev cX4_append : ByteArray := prog_6_method_7_code
def yX4_append : MethodName := ⟨RX4, "append", "(II)V"⟩
abbrev cX4_insert : ByteArray := prog_6_method_8_code
def yX4_insert : MethodName := ⟨RX4, "insert", "(III)V"⟩
abbrev cX4_cut : ByteArray := prog_6_method_9_code
def yX4_cut : MethodName := ⟨RX4, "cut", "(II)V"⟩
abbrev cX4_clear : ByteArray := prog_6_method_10_code
def yX4_clear : MethodName := ⟨RX4, "clea\x72", "()V"⟩
abbrev cX4_write : ByteArray := prog_6_method_11_code
def yX4_write : MethodName := ⟨RX4, "write", "(III)V"⟩
def RX5 : String := "CellFinder$Log"
def TX5 : u_T := fun k => match k with
  | 0 => ("CellFinder$Log", "cells", "LCellFinder$Ring;", true)
  | 1 => ("CellFinder$Log", "turns", "LCellFinder$Ring;", true)
  | 2 => ("CellFinder$Log", "checks", "LCellFinder$Ring;", true)
  | _ => ("CellFinder$Log", "loads", "[B", true)
def tyX5 : Nat → FieldType := fun k => match k with
  | 0 => .object "CellFinder$Ring"
  | 1 => .object "CellFinder$Ring"
  | 2 => .object "CellFinder$Ring"
  | _ => .array .byte
theorem nmX5 : ∀ a, a < 4 → ∀ b, b < 4 → a ≠ b → (TX5 a).2.1 ≠ (TX5 b).2.1 := by decide +kernel
theorem tyX5_ok : ∀ k, k < 4 → parseFieldDescriptor (TX5 k).2.2.1 = some (tyX5 k) := by decide +kernel
abbrev cX5_init : ByteArray := prog_7_method_1_code
def yX5_init : MethodName := ⟨RX5, "<init>", "()V"⟩
abbrev cX5_clear : ByteArray := prog_7_method_2_code
def yX5_clear : MethodName := ⟨RX5, "clea\x72", "()V"⟩
abbrev cX5_loadStart : ByteArray := prog_7_method_3_code
def yX5_loadStart : MethodName := ⟨RX5, "loadStart", "(I)I"⟩
abbrev cX5_loadByte : ByteArray := prog_7_method_4_code
def yX5_loadByte : MethodName := ⟨RX5, "loadByte", "(II)I"⟩
abbrev cX5_addCell : ByteArray := prog_7_method_5_code
def yX5_addCell : MethodName := ⟨RX5, "addCell", "(III[B)V"⟩
def RX6 : String := "CellFinder$Receive\x72"
def TX6 : u_T := fun k => match k with
  | 0 => ("CellFinder$Receive\x72", "terms", "[I", true)
  | 1 => ("CellFinder$Receive\x72", "sende\x72", "LCellFinder$Sender;", true)
  | 2 => ("CellFinder$Receive\x72", "log", "LCellFinder$Log;", true)
  | 3 => ("CellFinder$Receive\x72", "counts", "[I", true)
  | 4 => ("CellFinder$Receive\x72", "window", "LCellFinder$Window;", true)
  | 5 => ("CellFinder$Receive\x72", "history", "LCellFinder$History;", true)
  | 6 => ("CellFinder$Receive\x72", "load", "[B", true)
  | 7 => ("CellFinder$Receive\x72", "state", "I", false)
  | 8 => ("CellFinder$Receive\x72", "right", "I", false)
  | 9 => ("CellFinder$Receive\x72", "wrong", "I", false)
  | 10 => ("CellFinder$Receive\x72", "mode", "I", false)
  | 11 => ("CellFinder$Receive\x72", "good", "Z", false)
  | 12 => ("CellFinder$Receive\x72", "alarm", "Z", false)
  | 13 => ("CellFinder$Receive\x72", "still", "I", false)
  | 14 => ("CellFinder$Receive\x72", "hunted", "I", false)
  | 15 => ("CellFinder$Receive\x72", "spot", "I", false)
  | 16 => ("CellFinder$Receive\x72", "heade\x72", "I", false)
  | 17 => ("CellFinder$Receive\x72", "mended", "I", false)
  | _ => ("CellFinder$Receive\x72", "place", "I", false)
def tyX6 : Nat → FieldType := fun k => match k with
  | 0 => .array .int
  | 1 => .object "CellFinder$Sende\x72"
  | 2 => .object "CellFinder$Log"
  | 3 => .array .int
  | 4 => .object "CellFinder$Window"
  | 5 => .object "CellFinder$History"
  | 6 => .array .byte
  | 7 => .int
  | 8 => .int
  | 9 => .int
  | 10 => .int
  | 11 => .boolean
  | 12 => .boolean
  | 13 => .int
  | 14 => .int
  | 15 => .int
  | 16 => .int
  | 17 => .int
  | _ => .int
theorem nmX6 : ∀ a, a < 19 → ∀ b, b < 19 → a ≠ b → (TX6 a).2.1 ≠ (TX6 b).2.1 := by decide +kernel
theorem tyX6_ok : ∀ k, k < 19 → parseFieldDescriptor (TX6 k).2.2.1 = some (tyX6 k) := by decide +kernel
abbrev cX6_init : ByteArray := prog_8_method_1_code
def yX6_init : MethodName := ⟨RX6, "<init>", "([ILCellFinder$Sender;LCellFinder$Log;)V"⟩
abbrev cX6_restart : ByteArray := prog_8_method_2_code
def yX6_restart : MethodName := ⟨RX6, "restart", "()V"⟩
abbrev cX6_mirror : ByteArray := prog_8_method_3_code
def yX6_mirror : MethodName := ⟨RX6, "mirro\x72", "(LCellFinder$Receiver;)V"⟩
abbrev cX6_loadBits : ByteArray := prog_8_method_4_code
def yX6_loadBits : MethodName := ⟨RX6, "loadBits", "()I"⟩
abbrev cX6_loadTaken : ByteArray := prog_8_method_5_code
def yX6_loadTaken : MethodName := ⟨RX6, "loadTaken", "()I"⟩
abbrev cX6_headTaken : ByteArray := prog_8_method_6_code
def yX6_headTaken : MethodName := ⟨RX6, "headTaken", "()I"⟩
abbrev cX6_plainOf : ByteArray := prog_8_method_7_code
def yX6_plainOf : MethodName := ⟨RX6, "plainOf", "(I)I"⟩
abbrev cX6_receive : ByteArray := prog_8_method_8_code
def yX6_receive : MethodName := ⟨RX6, "receive", "(II)V"⟩
abbrev cX6_hunt : ByteArray := prog_8_method_9_code
def yX6_hunt : MethodName := ⟨RX6, "hunt", "(I)V"⟩
abbrev cX6_carry : ByteArray := prog_8_method_10_code
def yX6_carry : MethodName := ⟨RX6, "carry", "(I)V"⟩
abbrev cX6_endLoad : ByteArray := prog_8_method_11_code
def yX6_endLoad : MethodName := ⟨RX6, "endLoad", "()V"⟩
abbrev cX6_judge : ByteArray := prog_8_method_12_code
def yX6_judge : MethodName := ⟨RX6, "judge", "(I)V"⟩
abbrev cX6_acceptRight : ByteArray := prog_8_method_13_code
def yX6_acceptRight : MethodName := ⟨RX6, "acceptRight", "(I)I"⟩
abbrev cX6_faceWrong : ByteArray := prog_8_method_14_code
def yX6_faceWrong : MethodName := ⟨RX6, "faceWrong", "(II)I"⟩
abbrev cX6_become : ByteArray := prog_8_method_15_code
def yX6_become : MethodName := ⟨RX6, "become", "(II)V"⟩
abbrev cX6_watch : ByteArray := prog_8_method_16_code
def yX6_watch : MethodName := ⟨RX6, "watch", "(Z)V"⟩
def RX7 : String := "CellFinder$Ring"
def TX7 : u_T := fun k => match k with
  | 0 => ("CellFinder$Ring", "kept", "I", true)
  | 1 => ("CellFinder$Ring", "entries", "[I", true)
  | 2 => ("CellFinder$Ring", "total", "I", false)
  | _ => ("CellFinder$Ring", "next", "I", false)
def tyX7 : Nat → FieldType := fun k => match k with
  | 0 => .int
  | 1 => .array .int
  | 2 => .int
  | _ => .int
theorem nmX7 : ∀ a, a < 4 → ∀ b, b < 4 → a ≠ b → (TX7 a).2.1 ≠ (TX7 b).2.1 := by decide +kernel
theorem tyX7_ok : ∀ k, k < 4 → parseFieldDescriptor (TX7 k).2.2.1 = some (tyX7 k) := by decide +kernel
abbrev cX7_init : ByteArray := prog_9_method_1_code
def yX7_init : MethodName := ⟨RX7, "<init>", "(I)V"⟩
abbrev cX7_clear : ByteArray := prog_9_method_2_code
def yX7_clear : MethodName := ⟨RX7, "clea\x72", "()V"⟩
abbrev cX7_firstKept : ByteArray := prog_9_method_3_code
def yX7_firstKept : MethodName := ⟨RX7, "firstKept", "()I"⟩
abbrev cX7_keeps : ByteArray := prog_9_method_4_code
def yX7_keeps : MethodName := ⟨RX7, "keeps", "(I)Z"⟩
abbrev cX7_slotOf : ByteArray := prog_9_method_5_code
def yX7_slotOf : MethodName := ⟨RX7, "slotOf", "(I)I"⟩
abbrev cX7_entry : ByteArray := prog_9_method_6_code
def yX7_entry : MethodName := ⟨RX7, "entry", "(II)I"⟩
abbrev cX7_add : ByteArray := prog_9_method_7_code
def yX7_add : MethodName := ⟨RX7, "add", "(III)V"⟩
def RX8 : String := "CellFinder$Sende\x72"
def TX8 : u_T := fun k => match k with
  | 0 => ("CellFinder$Sende\x72", "history", "LCellFinder$History;", true)
  | 1 => ("CellFinder$Sende\x72", "headers", "[I", true)
  | 2 => ("CellFinder$Sende\x72", "loads", "[B", true)
  | _ => ("CellFinder$Sende\x72", "count", "I", false)
def tyX8 : Nat → FieldType := fun k => match k with
  | 0 => .object "CellFinder$History"
  | 1 => .array .int
  | 2 => .array .byte
  | _ => .int
theorem nmX8 : ∀ a, a < 4 → ∀ b, b < 4 → a ≠ b → (TX8 a).2.1 ≠ (TX8 b).2.1 := by decide +kernel
theorem tyX8_ok : ∀ k, k < 4 → parseFieldDescriptor (TX8 k).2.2.1 = some (tyX8 k) := by decide +kernel
abbrev cX8_init : ByteArray := prog_10_method_1_code
def yX8_init : MethodName := ⟨RX8, "<init>", "()V"⟩
abbrev cX8_restart : ByteArray := prog_10_method_2_code
def yX8_restart : MethodName := ⟨RX8, "restart", "()V"⟩
abbrev cX8_following : ByteArray := prog_10_method_3_code
def yX8_following : MethodName := ⟨RX8, "following", "(I)I"⟩
abbrev cX8_fillBySeed : ByteArray := prog_10_method_4_code
def yX8_fillBySeed : MethodName := ⟨RX8, "fillBySeed", "(II)V"⟩
abbrev cX8_fillIdle : ByteArray := prog_10_method_5_code
def yX8_fillIdle : MethodName := ⟨RX8, "fillIdle", "(I)V"⟩
abbrev cX8_putCell : ByteArray := prog_10_method_6_code
def yX8_putCell : MethodName := ⟨RX8, "putCell", "(LCellFinder$Line;II)V"⟩
abbrev cX8_scrambled : ByteArray := prog_10_method_7_code
def yX8_scrambled : MethodName := ⟨RX8, "scrambled", "(I)I"⟩
abbrev cX8_firstLike : ByteArray := prog_10_method_8_code
def yX8_firstLike : MethodName := ⟨RX8, "firstLike", "(I[BII)I"⟩
abbrev cX8_isLoadLike : ByteArray := prog_10_method_9_code
def yX8_isLoadLike : MethodName := ⟨RX8, "isLoadLike", "(I[BII)Z"⟩
def RX9 : String := "CellFinder$Weights"
def TX9 : u_T := fun k => match k with
  | 0 => ("CellFinder$Weights", "words", "[J", true)
  | 1 => ("CellFinder$Weights", "signs", "[J", true)
  | 2 => ("CellFinder$Weights", "masks", "[I", true)
  | _ => ("CellFinder$Weights", "counted", "Z", false)
def tyX9 : Nat → FieldType := fun k => match k with
  | 0 => .array .long
  | 1 => .array .long
  | 2 => .array .int
  | _ => .boolean
theorem nmX9 : ∀ a, a < 4 → ∀ b, b < 4 → a ≠ b → (TX9 a).2.1 ≠ (TX9 b).2.1 := by decide +kernel
theorem tyX9_ok : ∀ k, k < 4 → parseFieldDescriptor (TX9 k).2.2.1 = some (tyX9 k) := by decide +kernel
abbrev cX9_init : ByteArray := prog_11_method_1_code
def yX9_init : MethodName := ⟨RX9, "<init>", "()V"⟩
abbrev cX9_rowsOf : ByteArray := prog_11_method_2_code
def yX9_rowsOf : MethodName := ⟨RX9, "rowsOf", "(I)J"⟩
abbrev cX9_wordsOf : ByteArray := prog_11_method_3_code
def yX9_wordsOf : MethodName := ⟨RX9, "wordsOf", "(I)J"⟩
abbrev cX9_oneBitOff : ByteArray := prog_11_method_4_code
def yX9_oneBitOff : MethodName := ⟨RX9, "oneBitOff", "(I)J"⟩
abbrev cX9_countWords : ByteArray := prog_11_method_5_code
def yX9_countWords : MethodName := ⟨RX9, "countWords", "()V"⟩
abbrev cX9_countMasks : ByteArray := prog_11_method_6_code
def yX9_countMasks : MethodName := ⟨RX9, "countMasks", "()V"⟩
abbrev cX9_addUpSigns : ByteArray := prog_11_method_7_code
def yX9_addUpSigns : MethodName := ⟨RX9, "addUpSigns", "(I)V"⟩
def RX10 : String := "CellFinder$Window"
def TX10 : u_T := fun k => match k with
  | 0 => ("CellFinder$Window", "last", "J", false)
  | 1 => ("CellFinder$Window", "remainde\x72", "I", false)
  | _ => ("CellFinder$Window", "taken", "I", false)
def tyX10 : Nat → FieldType := fun k => match k with
  | 0 => .long
  | 1 => .int
  | _ => .int
theorem nmX10 : ∀ a, a < 3 → ∀ b, b < 3 → a ≠ b → (TX10 a).2.1 ≠ (TX10 b).2.1 := by decide +kernel
theorem tyX10_ok : ∀ k, k < 3 → parseFieldDescriptor (TX10 k).2.2.1 = some (tyX10 k) := by decide +kernel
abbrev cX10_init : ByteArray := prog_12_method_1_code
def yX10_init : MethodName := ⟨RX10, "<init>", "()V"⟩
abbrev cX10_clear : ByteArray := prog_12_method_2_code
def yX10_clear : MethodName := ⟨RX10, "clea\x72", "()V"⟩
abbrev cX10_mirror : ByteArray := prog_12_method_3_code
def yX10_mirror : MethodName := ⟨RX10, "mirro\x72", "(LCellFinder$Window;)V"⟩
abbrev cX10_push : ByteArray := prog_12_method_4_code
def yX10_push : MethodName := ⟨RX10, "push", "(I)V"⟩
abbrev cX10_isFull : ByteArray := prog_12_method_5_code
def yX10_isFull : MethodName := ⟨RX10, "isFull", "()Z"⟩
abbrev cX10_looksRight : ByteArray := prog_12_method_6_code
def yX10_looksRight : MethodName := ⟨RX10, "looksRight", "()Z"⟩
abbrev cX10_syndromeNow : ByteArray := prog_12_method_7_code
def yX10_syndromeNow : MethodName := ⟨RX10, "syndromeNow", "()I"⟩
abbrev cX10_headerNow : ByteArray := prog_12_method_8_code
def yX10_headerNow : MethodName := ⟨RX10, "headerNow", "()I"⟩
def RX11 : String := "CellFinde\x72"
def TX11 : u_T := fun k => match k with
  | 0 => ("CellFinde\x72", "terms", "[I", true)
  | 1 => ("CellFinde\x72", "line", "LCellFinder$Line;", true)
  | 2 => ("CellFinde\x72", "sende\x72", "LCellFinder$Sender;", true)
  | 3 => ("CellFinde\x72", "log", "LCellFinder$Log;", true)
  | 4 => ("CellFinde\x72", "receive\x72", "LCellFinder$Receiver;", true)
  | 5 => ("CellFinde\x72", "pape\x72", "LCellFinder$Receiver;", true)
  | 6 => ("CellFinde\x72", "otherPape\x72", "LCellFinder$Receiver;", true)
  | 7 => ("CellFinde\x72", "scan", "LCellFinder$Window;", true)
  | 8 => ("CellFinde\x72", "tally", "[I", true)
  | 9 => ("CellFinde\x72", "checks", "LCellFinder$Checks;", true)
  | 10 => ("CellFinde\x72", "weights", "LCellFinder$Weights;", true)
  | _ => ("CellFinde\x72", "ladde\x72", "LCellFinder$Ladder;", true)
def tyX11 : Nat → FieldType := fun k => match k with
  | 0 => .array .int
  | 1 => .object "CellFinder$Line"
  | 2 => .object "CellFinder$Sende\x72"
  | 3 => .object "CellFinder$Log"
  | 4 => .object "CellFinder$Receive\x72"
  | 5 => .object "CellFinder$Receive\x72"
  | 6 => .object "CellFinder$Receive\x72"
  | 7 => .object "CellFinder$Window"
  | 8 => .array .int
  | 9 => .object "CellFinder$Checks"
  | 10 => .object "CellFinder$Weights"
  | _ => .object "CellFinder$Ladde\x72"
theorem nmX11 : ∀ a, a < 12 → ∀ b, b < 12 → a ≠ b → (TX11 a).2.1 ≠ (TX11 b).2.1 := by decide +kernel
theorem tyX11_ok : ∀ k, k < 12 → parseFieldDescriptor (TX11 k).2.2.1 = some (tyX11 k) := by decide +kernel
abbrev cX11_init : ByteArray := prog_1_method_1_code
def yX11_init : MethodName := ⟨RX11, "<init>", "()V"⟩
abbrev cX11_feed : ByteArray := prog_1_method_2_code
def yX11_feed : MethodName := ⟨RX11, "feed", "(IIIII)I"⟩
abbrev cX11_bits : ByteArray := prog_1_method_3_code
def yX11_bits : MethodName := ⟨RX11, "bits", "(II)I"⟩
abbrev cX11_send : ByteArray := prog_1_method_4_code
def yX11_send : MethodName := ⟨RX11, "send", "(II)I"⟩
abbrev cX11_rest : ByteArray := prog_1_method_5_code
def yX11_rest : MethodName := ⟨RX11, "rest", "(I)I"⟩
abbrev cX11_flip : ByteArray := prog_1_method_6_code
def yX11_flip : MethodName := ⟨RX11, "flip", "(I)I"⟩
abbrev cX11_drop : ByteArray := prog_1_method_7_code
def yX11_drop : MethodName := ⟨RX11, "drop", "(II)I"⟩
abbrev cX11_slip : ByteArray := prog_1_method_8_code
def yX11_slip : MethodName := ⟨RX11, "slip", "(III)I"⟩
abbrev cX11_disturb : ByteArray := prog_1_method_9_code
def yX11_disturb : MethodName := ⟨RX11, "disturb", "(IIII)I"⟩
abbrev cX11_bit : ByteArray := prog_1_method_10_code
def yX11_bit : MethodName := ⟨RX11, "bit", "(I)I"⟩
abbrev cX11_empty : ByteArray := prog_1_method_11_code
def yX11_empty : MethodName := ⟨RX11, "empty", "()I"⟩
abbrev cX11_terms : ByteArray := prog_1_method_12_code
def yX11_terms : MethodName := ⟨RX11, "terms", "(II)I"⟩
abbrev cX11_take : ByteArray := prog_1_method_13_code
def yX11_take : MethodName := ⟨RX11, "take", "(I)I"⟩
abbrev cX11_fresh : ByteArray := prog_1_method_14_code
def yX11_fresh : MethodName := ⟨RX11, "fresh", "()I"⟩
abbrev cX11_stage : ByteArray := prog_1_method_15_code
def yX11_stage : MethodName := ⟨RX11, "stage", "(II)I"⟩
abbrev cX11_stages : ByteArray := prog_1_method_16_code
def yX11_stages : MethodName := ⟨RX11, "stages", "(II)I"⟩
abbrev cX11_state : ByteArray := prog_1_method_17_code
def yX11_state : MethodName := ⟨RX11, "state", "(I)I"⟩
abbrev cX11_count : ByteArray := prog_1_method_18_code
def yX11_count : MethodName := ⟨RX11, "count", "(I)I"⟩
abbrev cX11_delivered : ByteArray := prog_1_method_19_code
def yX11_delivered : MethodName := ⟨RX11, "delivered", "(II)I"⟩
abbrev cX11_load : ByteArray := prog_1_method_20_code
def yX11_load : MethodName := ⟨RX11, "load", "(II)I"⟩
abbrev cX11_field : ByteArray := prog_1_method_21_code
def yX11_field : MethodName := ⟨RX11, "field", "(II)I"⟩
abbrev cX11_judged : ByteArray := prog_1_method_22_code
def yX11_judged : MethodName := ⟨RX11, "judged", "(II)I"⟩
abbrev cX11_turn : ByteArray := prog_1_method_23_code
def yX11_turn : MethodName := ⟨RX11, "turn", "(II)I"⟩
abbrev cX11_lost : ByteArray := prog_1_method_24_code
def yX11_lost : MethodName := ⟨RX11, "lost", "()I"⟩
abbrev cX11_look : ByteArray := prog_1_method_25_code
def yX11_look : MethodName := ⟨RX11, "look", "(I)I"⟩
abbrev cX11_until : ByteArray := prog_1_method_26_code
def yX11_until : MethodName := ⟨RX11, "until", "(I)I"⟩
abbrev cX11_would : ByteArray := prog_1_method_27_code
def yX11_would : MethodName := ⟨RX11, "would", "(II)I"⟩
abbrev cX11_worst : ByteArray := prog_1_method_28_code
def yX11_worst : MethodName := ⟨RX11, "worst", "()I"⟩
abbrev cX11_regained : ByteArray := prog_1_method_29_code
def yX11_regained : MethodName := ⟨RX11, "regained", "(I)I"⟩
abbrev cX11_spread : ByteArray := prog_1_method_30_code
def yX11_spread : MethodName := ⟨RX11, "spread", "(II)I"⟩
abbrev cX11_rights : ByteArray := prog_1_method_31_code
def yX11_rights : MethodName := ⟨RX11, "rights", "(III)I"⟩
abbrev cX11_phase : ByteArray := prog_1_method_32_code
def yX11_phase : MethodName := ⟨RX11, "phase", "(I)I"⟩
abbrev cX11_tuned : ByteArray := prog_1_method_33_code
def yX11_tuned : MethodName := ⟨RX11, "tuned", "(I)I"⟩
abbrev cX11_starts : ByteArray := prog_1_method_34_code
def yX11_starts : MethodName := ⟨RX11, "starts", "(I)I"⟩
abbrev cX11_check : ByteArray := prog_1_method_35_code
def yX11_check : MethodName := ⟨RX11, "check", "(I)I"⟩
abbrev cX11_syndrome : ByteArray := prog_1_method_36_code
def yX11_syndrome : MethodName := ⟨RX11, "syndrome", "(II)I"⟩
abbrev cX11_single : ByteArray := prog_1_method_37_code
def yX11_single : MethodName := ⟨RX11, "single", "(I)I"⟩
abbrev cX11_latest : ByteArray := prog_1_method_38_code
def yX11_latest : MethodName := ⟨RX11, "latest", "(I)I"⟩
abbrev cX11_pairs : ByteArray := prog_1_method_39_code
def yX11_pairs : MethodName := ⟨RX11, "pairs", "(II)I"⟩
abbrev cX11_nearest : ByteArray := prog_1_method_40_code
def yX11_nearest : MethodName := ⟨RX11, "nearest", "(II)I"⟩
abbrev cX11_mending : ByteArray := prog_1_method_41_code
def yX11_mending : MethodName := ⟨RX11, "mending", "(III)I"⟩
abbrev cX11_words : ByteArray := prog_1_method_42_code
def yX11_words : MethodName := ⟨RX11, "words", "(I)J"⟩
abbrev cX11_cases : ByteArray := prog_1_method_43_code
def yX11_cases : MethodName := ⟨RX11, "cases", "(II)J"⟩
abbrev cX11_unseen : ByteArray := prog_1_method_44_code
def yX11_unseen : MethodName := ⟨RX11, "unseen", "(II)J"⟩
abbrev cX11_odds : ByteArray := prog_1_method_45_code
def yX11_odds : MethodName := ⟨RX11, "odds", "(IIII)J"⟩
abbrev cX11_mean : ByteArray := prog_1_method_46_code
def yX11_mean : MethodName := ⟨RX11, "mean", "(III)J"⟩
abbrev cX11_half : ByteArray := prog_1_method_47_code
def yX11_half : MethodName := ⟨RX11, "half", "(II)I"⟩
abbrev cX11_told : ByteArray := prog_1_method_48_code
def yX11_told : MethodName := ⟨RX11, "told", "(I)I"⟩
abbrev cX11_isWithin : ByteArray := prog_1_method_49_code
def yX11_isWithin : MethodName := ⟨RX11, "isWithin", "(III)Z"⟩
abbrev cX11_isByte : ByteArray := prog_1_method_50_code
def yX11_isByte : MethodName := ⟨RX11, "isByte", "(I)Z"⟩
abbrev cX11_hasRoomForCells : ByteArray := prog_1_method_51_code
def yX11_hasRoomForCells : MethodName := ⟨RX11, "hasRoomForCells", "(I)Z"⟩
abbrev cX11_isLoadHeld : ByteArray := prog_1_method_52_code
def yX11_isLoadHeld : MethodName := ⟨RX11, "isLoadHeld", "()Z"⟩
abbrev cX11_endOf : ByteArray := prog_1_method_53_code
def yX11_endOf : MethodName := ⟨RX11, "endOf", "(I)I"⟩
abbrev cX11_advance : ByteArray := prog_1_method_54_code
def yX11_advance : MethodName := ⟨RX11, "advance", "(LCellFinder$Receiver;II)V"⟩
abbrev cX11_foundOf : ByteArray := prog_1_method_55_code
def yX11_foundOf : MethodName := ⟨RX11, "foundOf", "(I)I"⟩
abbrev cX11_bitsTillSure : ByteArray := prog_1_method_56_code
def yX11_bitsTillSure : MethodName := ⟨RX11, "bitsTillSure", "(I)I"⟩
abbrev cX11_tallyPhases : ByteArray := prog_1_method_57_code
def yX11_tallyPhases : MethodName := ⟨RX11, "tallyPhases", "(I)V"⟩
abbrev cX11_oddsOf : ByteArray := prog_1_method_58_code
def yX11_oddsOf : MethodName := ⟨RX11, "oddsOf", "(III)J"⟩
abbrev cX11_rungsOf : ByteArray := prog_1_method_59_code
def yX11_rungsOf : MethodName := ⟨RX11, "rungsOf", "(I)I"⟩
abbrev cX11_climbsOf : ByteArray := prog_1_method_60_code
def yX11_climbsOf : MethodName := ⟨RX11, "climbsOf", "(II)I"⟩
def RX12 : String := "CellFinderModel"
def TX12 : u_T := fun k => match k with
  | 0 => ("CellFinderModel", "thrown", "I", false)
  | 1 => ("CellFinderModel", "term", "[I", true)
  | 2 => ("CellFinderModel", "lowTerm", "[I", true)
  | 3 => ("CellFinderModel", "highTerm", "[I", true)
  | 4 => ("CellFinderModel", "line", "[I", true)
  | 5 => ("CellFinderModel", "sent", "[I", true)
  | 6 => ("CellFinderModel", "long0", "I", false)
  | 7 => ("CellFinderModel", "sentMany", "I", false)
  | 8 => ("CellFinderModel", "elde\x72", "I", false)
  | 9 => ("CellFinderModel", "late", "I", false)
  | 10 => ("CellFinderModel", "fewest", "[I", true)
  | 11 => ("CellFinderModel", "\x72", "[I", true)
  | 12 => ("CellFinderModel", "aside", "[I", true)
  | 13 => ("CellFinderModel", "seen", "[I", true)
  | 14 => ("CellFinderModel", "seenThen", "[I", true)
  | 15 => ("CellFinderModel", "sees", "I", false)
  | 16 => ("CellFinderModel", "isFound", "[Z", true)
  | 17 => ("CellFinderModel", "ofPhase", "[I", true)
  | 18 => ("CellFinderModel", "ways", "[J", true)
  | 19 => ("CellFinderModel", "then", "[J", true)
  | 20 => ("CellFinderModel", "by", "[J", true)
  | _ => ("CellFinderModel", "next", "[J", true)
def tyX12 : Nat → FieldType := fun k => match k with
  | 0 => .int
  | 1 => .array .int
  | 2 => .array .int
  | 3 => .array .int
  | 4 => .array .int
  | 5 => .array .int
  | 6 => .int
  | 7 => .int
  | 8 => .int
  | 9 => .int
  | 10 => .array .int
  | 11 => .array .int
  | 12 => .array .int
  | 13 => .array .int
  | 14 => .array .int
  | 15 => .int
  | 16 => .array .boolean
  | 17 => .array .int
  | 18 => .array .long
  | 19 => .array .long
  | 20 => .array .long
  | _ => .array .long
theorem nmX12 : ∀ a, a < 22 → ∀ b, b < 22 → a ≠ b → (TX12 a).2.1 ≠ (TX12 b).2.1 := by decide +kernel
theorem tyX12_ok : ∀ k, k < 22 → parseFieldDescriptor (TX12 k).2.2.1 = some (tyX12 k) := by decide +kernel
abbrev cX12_isIn : ByteArray := prog_14_method_2_code
def yX12_isIn : MethodName := ⟨RX12, "isIn", "(JJJ)Z"⟩
abbrev cX12_copies : ByteArray := prog_14_method_3_code
def yX12_copies : MethodName := ⟨RX12, "copies", "([II[III)V"⟩
abbrev cX12_init : ByteArray := prog_14_method_4_code
def yX12_init : MethodName := ⟨RX12, "<init>", "()V"⟩
abbrev cX12_lays : ByteArray := prog_14_method_5_code
def yX12_lays : MethodName := ⟨RX12, "lays", "(I)V"⟩
abbrev cX12_laysBits : ByteArray := prog_14_method_6_code
def yX12_laysBits : MethodName := ⟨RX12, "laysBits", "(II)V"⟩
abbrev cX12_feed : ByteArray := prog_14_method_7_code
def yX12_feed : MethodName := ⟨RX12, "feed", "(IIIII)I"⟩
abbrev cX12_bits : ByteArray := prog_14_method_8_code
def yX12_bits : MethodName := ⟨RX12, "bits", "(II)I"⟩
abbrev cX12_restOf : ByteArray := prog_14_method_9_code
def yX12_restOf : MethodName := ⟨RX12, "restOf", "(I)I"⟩
abbrev cX12_checkOf : ByteArray := prog_14_method_10_code
def yX12_checkOf : MethodName := ⟨RX12, "checkOf", "(I)I"⟩
abbrev cX12_markOf : ByteArray := prog_14_method_11_code
def yX12_markOf : MethodName := ⟨RX12, "markOf", "(I)I"⟩
abbrev cX12_singleOf : ByteArray := prog_14_method_12_code
def yX12_singleOf : MethodName := ⟨RX12, "singleOf", "(I)I"⟩
abbrev cX12_check : ByteArray := prog_14_method_13_code
def yX12_check : MethodName := ⟨RX12, "check", "(I)I"⟩
abbrev cX12_syndrome : ByteArray := prog_14_method_14_code
def yX12_syndrome : MethodName := ⟨RX12, "syndrome", "(II)I"⟩
abbrev cX12_single : ByteArray := prog_14_method_15_code
def yX12_single : MethodName := ⟨RX12, "single", "(I)I"⟩
abbrev cX12_pairs : ByteArray := prog_14_method_16_code
def yX12_pairs : MethodName := ⟨RX12, "pairs", "(II)I"⟩
abbrev cX12_laysFewest : ByteArray := prog_14_method_17_code
def yX12_laysFewest : MethodName := ⟨RX12, "laysFewest", "()V"⟩
abbrev cX12_nearest : ByteArray := prog_14_method_18_code
def yX12_nearest : MethodName := ⟨RX12, "nearest", "(II)I"⟩
abbrev cX12_mending : ByteArray := prog_14_method_19_code
def yX12_mending : MethodName := ⟨RX12, "mending", "(III)I"⟩
abbrev cX12_cellLong : ByteArray := prog_14_method_20_code
def yX12_cellLong : MethodName := ⟨RX12, "cellLong", "()I"⟩
abbrev cX12_scrambles : ByteArray := prog_14_method_21_code
def yX12_scrambles : MethodName := ⟨RX12, "scrambles", "(I)V"⟩
abbrev cX12_sends : ByteArray := prog_14_method_22_code
def yX12_sends : MethodName := ⟨RX12, "sends", "(I)V"⟩
abbrev cX12_hasRoom : ByteArray := prog_14_method_23_code
def yX12_hasRoom : MethodName := ⟨RX12, "hasRoom", "(I)Z"⟩
abbrev cX12_send : ByteArray := prog_14_method_24_code
def yX12_send : MethodName := ⟨RX12, "send", "(II)I"⟩
abbrev cX12_rest : ByteArray := prog_14_method_25_code
def yX12_rest : MethodName := ⟨RX12, "rest", "(I)I"⟩
abbrev cX12_isBit : ByteArray := prog_14_method_26_code
def yX12_isBit : MethodName := ⟨RX12, "isBit", "(I)Z"⟩
abbrev cX12_flip : ByteArray := prog_14_method_27_code
def yX12_flip : MethodName := ⟨RX12, "flip", "(I)I"⟩
abbrev cX12_drop : ByteArray := prog_14_method_28_code
def yX12_drop : MethodName := ⟨RX12, "drop", "(II)I"⟩
abbrev cX12_slip : ByteArray := prog_14_method_29_code
def yX12_slip : MethodName := ⟨RX12, "slip", "(III)I"⟩
abbrev cX12_disturb : ByteArray := prog_14_method_30_code
def yX12_disturb : MethodName := ⟨RX12, "disturb", "(IIII)I"⟩
abbrev cX12_bit : ByteArray := prog_14_method_31_code
def yX12_bit : MethodName := ⟨RX12, "bit", "(I)I"⟩
abbrev cX12_empty : ByteArray := prog_14_method_32_code
def yX12_empty : MethodName := ⟨RX12, "empty", "()I"⟩
abbrev cX12_terms : ByteArray := prog_14_method_33_code
def yX12_terms : MethodName := ⟨RX12, "terms", "(II)I"⟩
abbrev cX12_counts : ByteArray := prog_14_method_34_code
def yX12_counts : MethodName := ⟨RX12, "counts", "(I)V"⟩
abbrev cX12_turns : ByteArray := prog_14_method_35_code
def yX12_turns : MethodName := ⟨RX12, "turns", "(I)V"⟩
abbrev cX12_syndromeNow : ByteArray := prog_14_method_36_code
def yX12_syndromeNow : MethodName := ⟨RX12, "syndromeNow", "()I"⟩
abbrev cX12_takesOne : ByteArray := prog_14_method_37_code
def yX12_takesOne : MethodName := ⟨RX12, "takesOne", "()V"⟩
abbrev cX12_hunts : ByteArray := prog_14_method_38_code
def yX12_hunts : MethodName := ⟨RX12, "hunts", "()V"⟩
abbrev cX12_takesLoad : ByteArray := prog_14_method_39_code
def yX12_takesLoad : MethodName := ⟨RX12, "takesLoad", "(I)V"⟩
abbrev cX12_delivers : ByteArray := prog_14_method_40_code
def yX12_delivers : MethodName := ⟨RX12, "delivers", "()V"⟩
abbrev cX12_takesHead : ByteArray := prog_14_method_41_code
def yX12_takesHead : MethodName := ⟨RX12, "takesHead", "()V"⟩
abbrev cX12_checksNear : ByteArray := prog_14_method_42_code
def yX12_checksNear : MethodName := ⟨RX12, "checksNea\x72", "(I)V"⟩
abbrev cX12_checksSure : ByteArray := prog_14_method_43_code
def yX12_checksSure : MethodName := ⟨RX12, "checksSure", "(I)V"⟩
abbrev cX12_stage : ByteArray := prog_14_method_44_code
def yX12_stage : MethodName := ⟨RX12, "stage", "(II)I"⟩
abbrev cX12_stages : ByteArray := prog_14_method_45_code
def yX12_stages : MethodName := ⟨RX12, "stages", "(II)I"⟩
abbrev cX12_takes : ByteArray := prog_14_method_46_code
def yX12_takes : MethodName := ⟨RX12, "takes", "(I)V"⟩
abbrev cX12_take : ByteArray := prog_14_method_47_code
def yX12_take : MethodName := ⟨RX12, "take", "(I)I"⟩
abbrev cX12_freshens : ByteArray := prog_14_method_48_code
def yX12_freshens : MethodName := ⟨RX12, "freshens", "()V"⟩
abbrev cX12_fresh : ByteArray := prog_14_method_49_code
def yX12_fresh : MethodName := ⟨RX12, "fresh", "()I"⟩
abbrev cX12_state : ByteArray := prog_14_method_50_code
def yX12_state : MethodName := ⟨RX12, "state", "(I)I"⟩
abbrev cX12_count : ByteArray := prog_14_method_51_code
def yX12_count : MethodName := ⟨RX12, "count", "(I)I"⟩
abbrev cX12_isKept : ByteArray := prog_14_method_52_code
def yX12_isKept : MethodName := ⟨RX12, "isKept", "(III)Z"⟩
abbrev cX12_cellAt : ByteArray := prog_14_method_53_code
def yX12_cellAt : MethodName := ⟨RX12, "cellAt", "(I)I"⟩
abbrev cX12_isLike : ByteArray := prog_14_method_54_code
def yX12_isLike : MethodName := ⟨RX12, "isLike", "(II)Z"⟩
abbrev cX12_foundOf : ByteArray := prog_14_method_55_code
def yX12_foundOf : MethodName := ⟨RX12, "foundOf", "(I)I"⟩
abbrev cX12_delivered : ByteArray := prog_14_method_56_code
def yX12_delivered : MethodName := ⟨RX12, "delivered", "(II)I"⟩
abbrev cX12_field : ByteArray := prog_14_method_57_code
def yX12_field : MethodName := ⟨RX12, "field", "(II)I"⟩
abbrev cX12_judged : ByteArray := prog_14_method_58_code
def yX12_judged : MethodName := ⟨RX12, "judged", "(II)I"⟩
abbrev cX12_load : ByteArray := prog_14_method_59_code
def yX12_load : MethodName := ⟨RX12, "load", "(II)I"⟩
abbrev cX12_turn : ByteArray := prog_14_method_60_code
def yX12_turn : MethodName := ⟨RX12, "turn", "(II)I"⟩
abbrev cX12_lost : ByteArray := prog_14_method_61_code
def yX12_lost : MethodName := ⟨RX12, "lost", "()I"⟩
abbrev cX12_opens : ByteArray := prog_14_method_62_code
def yX12_opens : MethodName := ⟨RX12, "opens", "()V"⟩
abbrev cX12_closes : ByteArray := prog_14_method_63_code
def yX12_closes : MethodName := ⟨RX12, "closes", "()V"⟩
abbrev cX12_look : ByteArray := prog_14_method_64_code
def yX12_look : MethodName := ⟨RX12, "look", "(I)I"⟩
abbrev cX12_until : ByteArray := prog_14_method_65_code
def yX12_until : MethodName := ⟨RX12, "until", "(I)I"⟩
abbrev cX12_would : ByteArray := prog_14_method_66_code
def yX12_would : MethodName := ⟨RX12, "would", "(II)I"⟩
abbrev cX12_worst : ByteArray := prog_14_method_67_code
def yX12_worst : MethodName := ⟨RX12, "worst", "()I"⟩
abbrev cX12_regained : ByteArray := prog_14_method_68_code
def yX12_regained : MethodName := ⟨RX12, "regained", "(I)I"⟩
abbrev cX12_regainedBy : ByteArray := prog_14_method_69_code
def yX12_regainedBy : MethodName := ⟨RX12, "regainedBy", "(I)I"⟩
abbrev cX12_latest : ByteArray := prog_14_method_70_code
def yX12_latest : MethodName := ⟨RX12, "latest", "(I)I"⟩
abbrev cX12_spread : ByteArray := prog_14_method_71_code
def yX12_spread : MethodName := ⟨RX12, "spread", "(II)I"⟩
abbrev cX12_looksRight : ByteArray := prog_14_method_72_code
def yX12_looksRight : MethodName := ⟨RX12, "looksRight", "(I)Z"⟩
abbrev cX12_rights : ByteArray := prog_14_method_73_code
def yX12_rights : MethodName := ⟨RX12, "rights", "(III)I"⟩
abbrev cX12_phase : ByteArray := prog_14_method_74_code
def yX12_phase : MethodName := ⟨RX12, "phase", "(I)I"⟩
abbrev cX12_tuned : ByteArray := prog_14_method_75_code
def yX12_tuned : MethodName := ⟨RX12, "tuned", "(I)I"⟩
abbrev cX12_starts : ByteArray := prog_14_method_76_code
def yX12_starts : MethodName := ⟨RX12, "starts", "(I)I"⟩
abbrev cX12_laysWays : ByteArray := prog_14_method_77_code
def yX12_laysWays : MethodName := ⟨RX12, "laysWays", "()V"⟩
abbrev cX12_chosen : ByteArray := prog_14_method_78_code
def yX12_chosen : MethodName := ⟨RX12, "chosen", "(I)J"⟩
abbrev cX12_words : ByteArray := prog_14_method_79_code
def yX12_words : MethodName := ⟨RX12, "words", "(I)J"⟩
abbrev cX12_bitsOf : ByteArray := prog_14_method_80_code
def yX12_bitsOf : MethodName := ⟨RX12, "bitsOf", "(DII)J"⟩
abbrev cX12_numberBy : ByteArray := prog_14_method_81_code
def yX12_numberBy : MethodName := ⟨RX12, "numberBy", "(JJI)J"⟩
abbrev cX12_cases : ByteArray := prog_14_method_82_code
def yX12_cases : MethodName := ⟨RX12, "cases", "(II)J"⟩
abbrev cX12_unseen : ByteArray := prog_14_method_83_code
def yX12_unseen : MethodName := ⟨RX12, "unseen", "(II)J"⟩
abbrev cX12_all : ByteArray := prog_14_method_84_code
def yX12_all : MethodName := ⟨RX12, "all", "(I)J"⟩
abbrev cX12_lostOf : ByteArray := prog_14_method_85_code
def yX12_lostOf : MethodName := ⟨RX12, "lostOf", "(II)J"⟩
abbrev cX12_gainedOf : ByteArray := prog_14_method_86_code
def yX12_gainedOf : MethodName := ⟨RX12, "gainedOf", "(II)J"⟩
abbrev cX12_oddsOf : ByteArray := prog_14_method_87_code
def yX12_oddsOf : MethodName := ⟨RX12, "oddsOf", "(III)J"⟩
abbrev cX12_odds : ByteArray := prog_14_method_88_code
def yX12_odds : MethodName := ⟨RX12, "odds", "(IIII)J"⟩
abbrev cX12_mean : ByteArray := prog_14_method_89_code
def yX12_mean : MethodName := ⟨RX12, "mean", "(III)J"⟩
abbrev cX12_half : ByteArray := prog_14_method_90_code
def yX12_half : MethodName := ⟨RX12, "half", "(II)I"⟩
abbrev cX12_told : ByteArray := prog_14_method_91_code
def yX12_told : MethodName := ⟨RX12, "told", "(I)I"⟩
def RJx8e188 : String := "java/lang/Cloneable"
def RJ6 : String := "java/lang/Intege\x72"
abbrev cJ6_bitCount_0f7a4 : ByteArray := prog_16_method_49_code
def yJ6_bitCount_0f7a4 : MethodName := ⟨RJ6, "bitCount", "(I)I"⟩
def RJ13 : String := "java/lang/Long"
abbrev cJ13_bitCount_95d88 : ByteArray := prog_17_method_50_code
def yJ13_bitCount_95d88 : MethodName := ⟨RJ13, "bitCount", "(J)I"⟩
def RJ9 : String := "java/lang/Math"
abbrev cJ9_max_7cf53 : ByteArray := prog_18_method_65_code
def yJ9_max_7cf53 : MethodName := ⟨RJ9, "max", "(II)I"⟩
abbrev cJ9_min_7cf53 : ByteArray := prog_18_method_69_code
def yJ9_min_7cf53 : MethodName := ⟨RJ9, "min", "(II)I"⟩
def RJ10 : String := "java/lang/System"
def RJ7 : String := "java/util/Arrays"
abbrev cJ7_fill_d0a16 : ByteArray := prog_20_method_101_code
def yJ7_fill_d0a16 : MethodName := ⟨RJ7, "fill", "([JJ)V"⟩
abbrev cJ7_fill_53178 : ByteArray := prog_20_method_103_code
def yJ7_fill_53178 : MethodName := ⟨RJ7, "fill", "([II)V"⟩
def RL : String := "CellFinderLaw"
abbrev cL_law : ByteArray := code
def yL_law : MethodName := ⟨RL, "law", "([I)Z"⟩
abbrev vwCl : List vw_C := [(RX1, TX1, 2), (RX2, TX2, 1), (RX3, TX3, 1), (RX4, TX4, 3), (RX5, TX5, 4), (RX6, TX6, 19), (RX7, TX7, 4), (RX8, TX8, 4), (RX9, TX9, 4), (RX10, TX10, 3), (RX11, TX11, 12), (RX12, TX12, 22)]
/-- the words that stay true along a run -/
def lw_gd : List Cond := lw_tbl.filter goodWord
theorem xm {w : Cond} {i : Nat} (h : lw_tbl[i]? = some w) (g : goodWord w = true) : w ∈ lw_gd := List.mem_filter.mpr ⟨List.mem_of_getElem? h, g⟩
/-- the words of a method that is called: code, initialised, plain, how many parameters, few locals -/
def xMi (y : MethodName) (cc : ByteArray) (nL : Nat) (rt : Option FieldType) (n : Nat) : Prop := Cond.code y cc nL rt ∈ lw_gd ∧ Cond.initialized y.cls ∈ lw_gd ∧ plainName y.cls = true ∧ (y.cls ≠ "java/lang/invoke/MethodHandle" ∧ y.cls ≠ "java/lang/invoke/VarHandle" ∧ (parseMethodDescriptor y.desc).map (fun d => d.parameters.length) = some n) ∧ nL ≤ 40
/-- the static rows of numbers that the class reads: their numbers are 1000, 1001, 1002 -/
def xsn (k : Nat) : String := match k with
  | 0 => "LEAST"
  | 1 => "GREATEST"
  | _ => "AT_FIRST"
